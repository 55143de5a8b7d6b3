/-! The model's state: t what was told, D its day's row by fields. -/
abbrev Dy : Type := Nat → Nat → Int32
def up2 (D : Dy) (f i : Nat) (v : Int32) : Dy := fun f' i' => if f' = f ∧ i' = i then v else D f' i'
def fOff : List (Nat × Nat) := [(0, 8), (8, 12), (20, 12), (32, 12), (44, 12), (56, 12), (68, 12), (80, 288), (368, 288), (656, 288), (944, 288), (1232, 60), (1292, 60), (1352, 60), (1412, 60), (1472, 60), (1532, 200), (1732, 200), (1932, 200), (2132, 200), (2332, 200), (2532, 200), (2732, 200), (2932, 200), (3132, 12), (3144, 20), (3164, 20), (3184, 20000), (0, 12)]
def fk (f : Nat) : Nat := if f = 28 then 100 else 70
def fo (f : Nat) : Nat := (fOff.getD f (0, 0)).1
def fl (f : Nat) : Nat := (fOff.getD f (0, 0)).2
def scr (k j : Nat) : Bool := (98 ≤ k && k ≤ 104) || (k == 69 && (j == 0 || j == 41 || j == 49))
def Ag (t : Sg) (D : Dy) (τ : Sg) : Prop := (∀ f i, i < fl f → τ (fk f) false 0 (fo f + i) = D f i) ∧ ∀ k d i j, ¬ k = 70 → scr k j = false → τ k d i j = t k d i j
theorem up2_s (D : Dy) (f i : Nat) (v : Int32) : up2 D f i v f i = v := by simp [up2]
theorem fo_all : (List.range 29).all (fun f => (List.range 29).all fun g => f == g || (Nat.ble (fo f + fl f) (fo g) || Nat.ble (fo g + fl g) (fo f)) || !(fk f == fk g)) = true := by decide +kernel
theorem up4_nk {σ : Sg} {k : Nat} {d : Bool} {i j : Nat} {v : Int32} {k' : Nat} {d' : Bool} {i' j' : Nat} (h : ¬ k' = k) : up4 σ k d i j v k' d' i' j' = σ k' d' i' j' := by
  unfold up4
  rw [if_neg (fun q => h q.1)]
theorem fk_or (f : Nat) : fk f = 70 ∨ fk f = 100 := by
  unfold fk
  split
  · exact Or.inr rfl
  · exact Or.inl rfl
theorem fl_big {f : Nat} (h : 29 ≤ f) : fl f = 0 := by
  unfold fl
  rw [List.getD_eq_getElem?_getD, List.getElem?_eq_none (by simpa [fOff] using h)]
  rfl
theorem fo_ap {f g i j : Nat} (hi : i < fl f) (hj : j < fl g) (hk : fk f = fk g) (h : fo f + i = fo g + j) : f = g ∧ i = j := by
  have hf : f < 29 := by
    rcases Nat.lt_or_ge f 29 with q | q
    · exact q
    · rw [fl_big q] at hi; omega
  have hg : g < 29 := by
    rcases Nat.lt_or_ge g 29 with q | q
    · exact q
    · rw [fl_big q] at hj; omega
  have h1 := List.all_eq_true.mp (List.all_eq_true.mp fo_all f (List.mem_range.mpr hf)) g (List.mem_range.mpr hg)
  simp only [Bool.or_eq_true, Bool.not_eq_true', beq_iff_eq, beq_eq_false_iff_ne, Nat.ble_eq] at h1
  rcases h1 with (rfl | h1 | h1) | h1
  · exact ⟨rfl, by omega⟩
  · omega
  · omega
  · exact absurd hk h1
theorem Ag_st {t : Sg} {D : Dy} {τ : Sg} (h : Ag t D τ) (f i : Nat) (hi : i < fl f) (v : Int32) : Ag t (up2 D f i v) (up4 τ (fk f) false 0 (fo f + i) v) := by
  refine ⟨fun g j hj => ?_, fun k d i' j hk hs => ?_⟩
  · unfold up4 up2
    by_cases e : fk g = fk f ∧ fo g + j = fo f + i
    · obtain ⟨rfl, rfl⟩ := fo_ap hj hi e.1 e.2
      rw [if_pos ⟨rfl, rfl, rfl, rfl⟩, if_pos ⟨rfl, rfl⟩]
    · rw [if_neg (fun q => e ⟨q.1, q.2.2.2⟩), if_neg (fun q => e (by rw [q.1, q.2]; exact ⟨rfl, rfl⟩))]
      exact h.1 g j hj
  · have e : ¬ k = fk f := by
      rcases fk_or f with q | q
      · rw [q]; exact hk
      · rw [q]; rintro rfl; cases hs
    exact (up4_nk e).trans (h.2 k d i' j hk hs)
theorem Ag_scr {t : Sg} {D : Dy} {τ : Sg} (h : Ag t D τ) {k : Nat} {d : Bool} {i j : Nat} {v : Int32} (hk : ¬ k = 70 ∧ ¬ k = 100) (hs : scr k j = true) : Ag t D (up4 τ k d i j v) := by
  refine ⟨fun g q hq => ?_, fun k' d' i' j' hk' hs' => ?_⟩
  · exact (up4_nk (fun q => (fk_or g).elim (fun e => hk.1 (q.symm.trans e)) (fun e => hk.2 (q.symm.trans e)))).trans (h.1 g q hq)
  · rw [← h.2 k' d' i' j' hk' hs']
    unfold up4
    rw [if_neg]
    rintro ⟨rfl, -, -, rfl⟩
    rw [hs] at hs'
    cases hs'
theorem Ag_t {t : Sg} {D : Dy} {τ : Sg} (h : Ag t D τ) (k : Nat) (d : Bool) (i j : Nat) (v : Int32) (hk : ¬ k = 70 ∧ ¬ k = 100) : Ag (up4 t k d i j v) D (up4 τ k d i j v) := by
  refine ⟨fun g q hq => ?_, fun k' d' i' j' hk' hs' => ?_⟩
  · exact (up4_nk (fun q => (fk_or g).elim (fun e => hk.1 (q.symm.trans e)) (fun e => hk.2 (q.symm.trans e)))).trans (h.1 g q hq)
  · unfold up4
    split
    · rfl
    · exact h.2 k' d' i' j' hk' hs'
theorem Ag_rf (τ : Sg) : Ag τ (fun f i => τ (fk f) false 0 (fo f + i)) τ := ⟨fun _ _ _ => rfl, fun _ _ _ _ _ _ => rfl⟩
theorem Ag.r0 {t : Sg} {D : Dy} {τ : Sg} (h : Ag t D τ) (i : Nat) (hi : i < 8) : τ 70 false 0 (i) = D 0 i := by rw [← h.1 0 i hi]; congr 1; exact (Nat.zero_add i).symm
theorem Ag.w0 {t : Sg} {D : Dy} {τ : Sg} (h : Ag t D τ) (i : Nat) (hi : i < 8) (v : Int32) : Ag t (up2 D 0 i v) (up4 τ 70 false 0 (i) v) := by have := Ag_st h 0 i hi v; rwa [show fo 0 + i = i from Nat.zero_add i] at this
theorem Ag.r1 {t : Sg} {D : Dy} {τ : Sg} (h : Ag t D τ) (i : Nat) (hi : i < 12) : τ 70 false 0 (8 + i) = D 1 i := h.1 1 i hi
theorem Ag.w1 {t : Sg} {D : Dy} {τ : Sg} (h : Ag t D τ) (i : Nat) (hi : i < 12) (v : Int32) : Ag t (up2 D 1 i v) (up4 τ 70 false 0 (8 + i) v) := Ag_st h 1 i hi v
theorem Ag.r2 {t : Sg} {D : Dy} {τ : Sg} (h : Ag t D τ) (i : Nat) (hi : i < 12) : τ 70 false 0 (20 + i) = D 2 i := h.1 2 i hi
theorem Ag.w2 {t : Sg} {D : Dy} {τ : Sg} (h : Ag t D τ) (i : Nat) (hi : i < 12) (v : Int32) : Ag t (up2 D 2 i v) (up4 τ 70 false 0 (20 + i) v) := Ag_st h 2 i hi v
theorem Ag.r3 {t : Sg} {D : Dy} {τ : Sg} (h : Ag t D τ) (i : Nat) (hi : i < 12) : τ 70 false 0 (32 + i) = D 3 i := h.1 3 i hi
theorem Ag.w3 {t : Sg} {D : Dy} {τ : Sg} (h : Ag t D τ) (i : Nat) (hi : i < 12) (v : Int32) : Ag t (up2 D 3 i v) (up4 τ 70 false 0 (32 + i) v) := Ag_st h 3 i hi v
theorem Ag.r4 {t : Sg} {D : Dy} {τ : Sg} (h : Ag t D τ) (i : Nat) (hi : i < 12) : τ 70 false 0 (44 + i) = D 4 i := h.1 4 i hi
theorem Ag.w4 {t : Sg} {D : Dy} {τ : Sg} (h : Ag t D τ) (i : Nat) (hi : i < 12) (v : Int32) : Ag t (up2 D 4 i v) (up4 τ 70 false 0 (44 + i) v) := Ag_st h 4 i hi v
theorem Ag.r5 {t : Sg} {D : Dy} {τ : Sg} (h : Ag t D τ) (i : Nat) (hi : i < 12) : τ 70 false 0 (56 + i) = D 5 i := h.1 5 i hi
theorem Ag.w5 {t : Sg} {D : Dy} {τ : Sg} (h : Ag t D τ) (i : Nat) (hi : i < 12) (v : Int32) : Ag t (up2 D 5 i v) (up4 τ 70 false 0 (56 + i) v) := Ag_st h 5 i hi v
theorem Ag.r6 {t : Sg} {D : Dy} {τ : Sg} (h : Ag t D τ) (i : Nat) (hi : i < 12) : τ 70 false 0 (68 + i) = D 6 i := h.1 6 i hi
theorem Ag.w6 {t : Sg} {D : Dy} {τ : Sg} (h : Ag t D τ) (i : Nat) (hi : i < 12) (v : Int32) : Ag t (up2 D 6 i v) (up4 τ 70 false 0 (68 + i) v) := Ag_st h 6 i hi v
theorem Ag.r7 {t : Sg} {D : Dy} {τ : Sg} (h : Ag t D τ) (i : Nat) (hi : i < 288) : τ 70 false 0 (80 + i) = D 7 i := h.1 7 i hi
theorem Ag.w7 {t : Sg} {D : Dy} {τ : Sg} (h : Ag t D τ) (i : Nat) (hi : i < 288) (v : Int32) : Ag t (up2 D 7 i v) (up4 τ 70 false 0 (80 + i) v) := Ag_st h 7 i hi v
theorem Ag.r8 {t : Sg} {D : Dy} {τ : Sg} (h : Ag t D τ) (i : Nat) (hi : i < 288) : τ 70 false 0 (368 + i) = D 8 i := h.1 8 i hi
theorem Ag.w8 {t : Sg} {D : Dy} {τ : Sg} (h : Ag t D τ) (i : Nat) (hi : i < 288) (v : Int32) : Ag t (up2 D 8 i v) (up4 τ 70 false 0 (368 + i) v) := Ag_st h 8 i hi v
theorem Ag.r9 {t : Sg} {D : Dy} {τ : Sg} (h : Ag t D τ) (i : Nat) (hi : i < 288) : τ 70 false 0 (656 + i) = D 9 i := h.1 9 i hi
theorem Ag.w9 {t : Sg} {D : Dy} {τ : Sg} (h : Ag t D τ) (i : Nat) (hi : i < 288) (v : Int32) : Ag t (up2 D 9 i v) (up4 τ 70 false 0 (656 + i) v) := Ag_st h 9 i hi v
theorem Ag.r10 {t : Sg} {D : Dy} {τ : Sg} (h : Ag t D τ) (i : Nat) (hi : i < 288) : τ 70 false 0 (944 + i) = D 10 i := h.1 10 i hi
theorem Ag.w10 {t : Sg} {D : Dy} {τ : Sg} (h : Ag t D τ) (i : Nat) (hi : i < 288) (v : Int32) : Ag t (up2 D 10 i v) (up4 τ 70 false 0 (944 + i) v) := Ag_st h 10 i hi v
theorem Ag.r11 {t : Sg} {D : Dy} {τ : Sg} (h : Ag t D τ) (i : Nat) (hi : i < 60) : τ 70 false 0 (1232 + i) = D 11 i := h.1 11 i hi
theorem Ag.w11 {t : Sg} {D : Dy} {τ : Sg} (h : Ag t D τ) (i : Nat) (hi : i < 60) (v : Int32) : Ag t (up2 D 11 i v) (up4 τ 70 false 0 (1232 + i) v) := Ag_st h 11 i hi v
theorem Ag.r12 {t : Sg} {D : Dy} {τ : Sg} (h : Ag t D τ) (i : Nat) (hi : i < 60) : τ 70 false 0 (1292 + i) = D 12 i := h.1 12 i hi
theorem Ag.w12 {t : Sg} {D : Dy} {τ : Sg} (h : Ag t D τ) (i : Nat) (hi : i < 60) (v : Int32) : Ag t (up2 D 12 i v) (up4 τ 70 false 0 (1292 + i) v) := Ag_st h 12 i hi v
theorem Ag.r13 {t : Sg} {D : Dy} {τ : Sg} (h : Ag t D τ) (i : Nat) (hi : i < 60) : τ 70 false 0 (1352 + i) = D 13 i := h.1 13 i hi
theorem Ag.w13 {t : Sg} {D : Dy} {τ : Sg} (h : Ag t D τ) (i : Nat) (hi : i < 60) (v : Int32) : Ag t (up2 D 13 i v) (up4 τ 70 false 0 (1352 + i) v) := Ag_st h 13 i hi v
theorem Ag.r14 {t : Sg} {D : Dy} {τ : Sg} (h : Ag t D τ) (i : Nat) (hi : i < 60) : τ 70 false 0 (1412 + i) = D 14 i := h.1 14 i hi
theorem Ag.w14 {t : Sg} {D : Dy} {τ : Sg} (h : Ag t D τ) (i : Nat) (hi : i < 60) (v : Int32) : Ag t (up2 D 14 i v) (up4 τ 70 false 0 (1412 + i) v) := Ag_st h 14 i hi v
theorem Ag.r15 {t : Sg} {D : Dy} {τ : Sg} (h : Ag t D τ) (i : Nat) (hi : i < 60) : τ 70 false 0 (1472 + i) = D 15 i := h.1 15 i hi
theorem Ag.w15 {t : Sg} {D : Dy} {τ : Sg} (h : Ag t D τ) (i : Nat) (hi : i < 60) (v : Int32) : Ag t (up2 D 15 i v) (up4 τ 70 false 0 (1472 + i) v) := Ag_st h 15 i hi v
theorem Ag.r16 {t : Sg} {D : Dy} {τ : Sg} (h : Ag t D τ) (i : Nat) (hi : i < 200) : τ 70 false 0 (1532 + i) = D 16 i := h.1 16 i hi
theorem Ag.w16 {t : Sg} {D : Dy} {τ : Sg} (h : Ag t D τ) (i : Nat) (hi : i < 200) (v : Int32) : Ag t (up2 D 16 i v) (up4 τ 70 false 0 (1532 + i) v) := Ag_st h 16 i hi v
theorem Ag.r17 {t : Sg} {D : Dy} {τ : Sg} (h : Ag t D τ) (i : Nat) (hi : i < 200) : τ 70 false 0 (1732 + i) = D 17 i := h.1 17 i hi
theorem Ag.w17 {t : Sg} {D : Dy} {τ : Sg} (h : Ag t D τ) (i : Nat) (hi : i < 200) (v : Int32) : Ag t (up2 D 17 i v) (up4 τ 70 false 0 (1732 + i) v) := Ag_st h 17 i hi v
theorem Ag.r18 {t : Sg} {D : Dy} {τ : Sg} (h : Ag t D τ) (i : Nat) (hi : i < 200) : τ 70 false 0 (1932 + i) = D 18 i := h.1 18 i hi
theorem Ag.w18 {t : Sg} {D : Dy} {τ : Sg} (h : Ag t D τ) (i : Nat) (hi : i < 200) (v : Int32) : Ag t (up2 D 18 i v) (up4 τ 70 false 0 (1932 + i) v) := Ag_st h 18 i hi v
theorem Ag.r19 {t : Sg} {D : Dy} {τ : Sg} (h : Ag t D τ) (i : Nat) (hi : i < 200) : τ 70 false 0 (2132 + i) = D 19 i := h.1 19 i hi
theorem Ag.w19 {t : Sg} {D : Dy} {τ : Sg} (h : Ag t D τ) (i : Nat) (hi : i < 200) (v : Int32) : Ag t (up2 D 19 i v) (up4 τ 70 false 0 (2132 + i) v) := Ag_st h 19 i hi v
theorem Ag.r20 {t : Sg} {D : Dy} {τ : Sg} (h : Ag t D τ) (i : Nat) (hi : i < 200) : τ 70 false 0 (2332 + i) = D 20 i := h.1 20 i hi
theorem Ag.w20 {t : Sg} {D : Dy} {τ : Sg} (h : Ag t D τ) (i : Nat) (hi : i < 200) (v : Int32) : Ag t (up2 D 20 i v) (up4 τ 70 false 0 (2332 + i) v) := Ag_st h 20 i hi v
theorem Ag.r21 {t : Sg} {D : Dy} {τ : Sg} (h : Ag t D τ) (i : Nat) (hi : i < 200) : τ 70 false 0 (2532 + i) = D 21 i := h.1 21 i hi
theorem Ag.w21 {t : Sg} {D : Dy} {τ : Sg} (h : Ag t D τ) (i : Nat) (hi : i < 200) (v : Int32) : Ag t (up2 D 21 i v) (up4 τ 70 false 0 (2532 + i) v) := Ag_st h 21 i hi v
theorem Ag.r22 {t : Sg} {D : Dy} {τ : Sg} (h : Ag t D τ) (i : Nat) (hi : i < 200) : τ 70 false 0 (2732 + i) = D 22 i := h.1 22 i hi
theorem Ag.w22 {t : Sg} {D : Dy} {τ : Sg} (h : Ag t D τ) (i : Nat) (hi : i < 200) (v : Int32) : Ag t (up2 D 22 i v) (up4 τ 70 false 0 (2732 + i) v) := Ag_st h 22 i hi v
theorem Ag.r23 {t : Sg} {D : Dy} {τ : Sg} (h : Ag t D τ) (i : Nat) (hi : i < 200) : τ 70 false 0 (2932 + i) = D 23 i := h.1 23 i hi
theorem Ag.w23 {t : Sg} {D : Dy} {τ : Sg} (h : Ag t D τ) (i : Nat) (hi : i < 200) (v : Int32) : Ag t (up2 D 23 i v) (up4 τ 70 false 0 (2932 + i) v) := Ag_st h 23 i hi v
theorem Ag.r24 {t : Sg} {D : Dy} {τ : Sg} (h : Ag t D τ) (i : Nat) (hi : i < 12) : τ 70 false 0 (3132 + i) = D 24 i := h.1 24 i hi
theorem Ag.w24 {t : Sg} {D : Dy} {τ : Sg} (h : Ag t D τ) (i : Nat) (hi : i < 12) (v : Int32) : Ag t (up2 D 24 i v) (up4 τ 70 false 0 (3132 + i) v) := Ag_st h 24 i hi v
theorem Ag.r25 {t : Sg} {D : Dy} {τ : Sg} (h : Ag t D τ) (i : Nat) (hi : i < 20) : τ 70 false 0 (3144 + i) = D 25 i := h.1 25 i hi
theorem Ag.w25 {t : Sg} {D : Dy} {τ : Sg} (h : Ag t D τ) (i : Nat) (hi : i < 20) (v : Int32) : Ag t (up2 D 25 i v) (up4 τ 70 false 0 (3144 + i) v) := Ag_st h 25 i hi v
theorem Ag.r26 {t : Sg} {D : Dy} {τ : Sg} (h : Ag t D τ) (i : Nat) (hi : i < 20) : τ 70 false 0 (3164 + i) = D 26 i := h.1 26 i hi
theorem Ag.w26 {t : Sg} {D : Dy} {τ : Sg} (h : Ag t D τ) (i : Nat) (hi : i < 20) (v : Int32) : Ag t (up2 D 26 i v) (up4 τ 70 false 0 (3164 + i) v) := Ag_st h 26 i hi v
theorem Ag.r27 {t : Sg} {D : Dy} {τ : Sg} (h : Ag t D τ) (i : Nat) (hi : i < 20000) : τ 70 false 0 (3184 + i) = D 27 i := h.1 27 i hi
theorem Ag.w27 {t : Sg} {D : Dy} {τ : Sg} (h : Ag t D τ) (i : Nat) (hi : i < 20000) (v : Int32) : Ag t (up2 D 27 i v) (up4 τ 70 false 0 (3184 + i) v) := Ag_st h 27 i hi v
theorem Ag.r28 {t : Sg} {D : Dy} {τ : Sg} (h : Ag t D τ) (i : Nat) (hi : i < 12) : τ 100 false 0 i = D 28 i := by rw [← h.1 28 i hi]; congr 1; exact (Nat.zero_add i).symm
theorem Ag.w28 {t : Sg} {D : Dy} {τ : Sg} (h : Ag t D τ) (i : Nat) (hi : i < 12) (v : Int32) : Ag t (up2 D 28 i v) (up4 τ 100 false 0 i v) := by have := Ag_st h 28 i hi v; rwa [show fo 28 + i = i from Nat.zero_add i] at this
theorem add_nr {x y : Int32} {k a b : Nat} (hx : x = nI (k + a)) (hy : y = nI b) : x + y = nI (k + (a + b)) := by rw [hx, hy, nI_add, Nat.add_assoc]
def nN (x : Int32) : Nat := x.toNatClampNeg
theorem nN_nI {n : Nat} (h : n < 2147483648) : nN (nI n) = n := nI_clamp h
def nP (t : Sg) : Nat := nN (t 69 false 0 3)
def nB (t : Sg) : Nat := nN (t 69 false 0 7)
def nR (t : Sg) : Nat := nN (t 69 false 0 9)
def nH (t : Sg) : Nat := nN (t 69 false 0 18)
def nSaid (t : Sg) : Nat := nN (t 69 false 0 20)
def nRu (t : Sg) : Nat := nN (t 69 false 0 22)
def nD (t : Sg) : Nat := nN (t 69 false 0 26)
def nSi (t : Sg) : Nat := nN (t 69 false 0 31)
def nWi (t : Sg) : Nat := nN (t 69 false 0 34)
def nTe (t : Sg) : Nat := nN (t 69 false 0 38)
/-- a cell holds a number of at most m -/
def Is (x : Int32) (m : Nat) : Prop := x = nI (nN x) ∧ nN x ≤ m
theorem Is_of {n m : Nat} (h : n ≤ m) (hm : m < 2147483648) : Is (nI n) m := by
  unfold Is
  rw [nN_nI (by omega)]
  exact ⟨rfl, h⟩
/-- how many of each were told -/
def WN (t : Sg) : Prop := Is (t 69 false 0 3) 12 ∧ Is (t 69 false 0 7) 60 ∧ Is (t 69 false 0 9) 200
theorem WN.P {t : Sg} (h : WN t) : nP t ≤ 12 := h.1.2
theorem WN.B {t : Sg} (h : WN t) : nB t ≤ 60 := h.2.1.2
theorem WN.R {t : Sg} (h : WN t) : nR t ≤ 200 := h.2.2.2
theorem Ag.P {t : Sg} {D : Dy} {τ : Sg} (h : Ag t D τ) (hT : WN t) : τ 69 false 0 3 = nI (nP t) := (h.2 69 _ _ _ (by decide) rfl).trans hT.1.1
theorem Ag.B {t : Sg} {D : Dy} {τ : Sg} (h : Ag t D τ) (hT : WN t) : τ 69 false 0 7 = nI (nB t) := (h.2 69 _ _ _ (by decide) rfl).trans hT.2.1.1
theorem Ag.R {t : Sg} {D : Dy} {τ : Sg} (h : Ag t D τ) (hT : WN t) : τ 69 false 0 9 = nI (nR t) := (h.2 69 _ _ _ (by decide) rfl).trans hT.2.2.1
def isA (D : Dy) (p b : Nat) : Bool := decide (D 11 b = nI 0) && decide (D 12 b = nI p)
def isG (D : Dy) (p b : Nat) : Bool := isA D p b && decide (D 14 b = nI 0)
def thr (t : Sg) (D : Dy) (p : Nat) : Nat := ct (isA D p) (nB t)
def gdn (t : Sg) (D : Dy) (p : Nat) : Nat := ct (isG D p) (nB t)
def fre (t : Sg) (D : Dy) (p : Nat) : Int32 := t 74 false 0 p - nI (thr t D p)
def pik (D : Dy) (p : Nat) : Nat → Option Nat
  | 0 => none
  | n + 1 => if isG D p n = true ∧ (∀ m, pik D p n = some m → D 13 n < D 13 m) then some n else pik D p n
def oI : Option Nat → Int32
  | none => -1
  | some n => nI n
def lgs (D : Dy) (w p r b : Int32) : Dy := if nN (D 0 7) < 4000 then up2 (up2 (up2 (up2 (up2 (up2 D 27 (5 * nN (D 0 7)) w) 27 (5 * nN (D 0 7) + 1) (D 0 0)) 27 (5 * nN (D 0 7) + 2) p) 27 (5 * nN (D 0 7) + 3) r) 27 (5 * nN (D 0 7) + 4) b) 0 7 (nI (nN (D 0 7) + 1)) else D
def tls (D : Dy) (r : Nat) : Dy := up2 (up2 (up2 (up2 (up2 (up2 D 16 r (nI 0)) 17 r (-1)) 18 r (-1)) 19 r (-1)) 20 r (-1)) 21 r (nI 0)
def way (t : Sg) (p q : Nat) : Int32 := nI 1 + (mAbs (t 72 false 0 p - t 72 false 0 q) + mAbs (t 73 false 0 p - t 73 false 0 q)) / nI 10
theorem ct_S (p : Nat → Bool) (n : Nat) : ct p (n + 1) = ct p n + (if p n then 1 else 0) := rfl
theorem neg_sub (x : Int32) : -x = 0 - x := (Int32.zero_sub x).symm
theorem i_nlt {x y : Int32} (h : ¬ x < y) : y ≤ x := Int32.not_lt.mp h
theorem i_nle {x y : Int32} (h : ¬ x ≤ y) : y < x := Int32.not_le.mp h
theorem mv_in {sd : Bool} {τ : Sg} {v a b : Int32} : Ev sd 45 [.inl v, .inl a, .inl b] τ (some (.inl (bI (a ≤ v ∧ v ≤ b)))) τ := by
  refine Ev_wp 20 [] rfl rfl ?_
  refine ⟨fun h => ?_, fun h => ⟨fun h2 => ?_, fun h2 => ?_⟩⟩
  · exact ⟨Or.inl rfl, by rw [bI_f (fun q => absurd h (Int32.not_lt.mpr q.1))], rfl⟩
  · exact ⟨Or.inl rfl, by rw [bI_f (fun q => absurd h2 (Int32.not_lt.mpr q.2))], rfl⟩
  · exact ⟨Or.inr rfl, by rw [bI_t ⟨i_nlt h, i_nlt h2⟩], rfl⟩
theorem mv_size {sd : Bool} {τ : Sg} {v : Int32} : Ev sd 56 [.inl v] τ (some (.inl (mAbs v))) τ := by
  refine Ev_wp 20 [] rfl rfl ?_
  refine ⟨fun h => ?_, fun h => ?_⟩
  · rw [nI_0] at h
    exact ⟨by unfold mAbs; rw [if_pos h], rfl⟩
  · rw [nI_0] at h
    exact ⟨by unfold mAbs; rw [if_neg h, neg_sub], rfl⟩
theorem mv_there_l {t : Sg} {D : Dy} {τ : Sg} (hA : Ag t D τ) (hT : WN t) {x : Int32} {p : Nat} (hx : x = nI p) : ∀ (k b : Nat), b + k = nB t → ∀ n, n = ct (isA D p) b → G true 49 (fun r' s' => r' = some (.inl (nI (thr t D p))) ∧ s' = τ) 4 [some (.inr (.inr (69, false, 0))), some (.inl x), some (.inl (nI n)), some (.inl (nI b))] [] τ := by
  have eB := hA.B hT
  have hB := hT.B
  intro k
  induction k with
  | zero =>
    intro b hb n hn
    have hn2 := hn ▸ ct_le (isA D p) b
    refine G_wp 100 [4] rfl ?_
    refine br_ge rfl eB (by omega) (by omega) (fun h7 => ?_) (fun h7 => ?_)
    · rw [show b = nB t by omega] at hn
      exact ⟨by rw [hn]; rfl, rfl⟩
    · exact absurd h7 (by omega)
  | succ k ih =>
    intro b hb n hn
    have hn2 := hn ▸ ct_le (isA D p) b
    refine G_wp 100 [4] rfl ?_
    refine br_ge rfl eB (by omega) (by omega) (fun h7 => ?_) (fun h7 => ?_)
    · exact absurd h7 (by omega)
    · refine ⟨1232 + b, (add_n rfl rfl), (by show _ < 23184; omega), ?_⟩
      rw [hA.r11 b (by omega)]
      refine ⟨fun h15 => ?_, fun h15 => ?_⟩
      · refine ⟨nI (n + 0), (add_n rfl rfl), nI (b + 1), nI_add _ _, ?_⟩
        refine ih (b + 1) (by omega) _ ?_
        rw [ct_S, hn]
        simp_all [isA]
      · refine ⟨1292 + b, (add_n rfl rfl), (by show _ < 23184; omega), ?_⟩
        rw [hA.r12 b (by omega)]
        refine ⟨fun h23 => ?_, fun h23 => ?_⟩
        · refine ⟨nI (n + 0), (add_n rfl rfl), nI (b + 1), nI_add _ _, ?_⟩
          refine ih (b + 1) (by omega) _ ?_
          rw [ct_S, hn]
          simp_all [isA]
        · refine ⟨nI (n + 1), (add_n rfl rfl), nI (b + 1), nI_add _ _, ?_⟩
          refine ih (b + 1) (by omega) _ ?_
          rw [ct_S, hn]
          simp_all [isA]
theorem mv_there {t : Sg} {D : Dy} {τ : Sg} (hA : Ag t D τ) (hT : WN t) {x : Int32} {p : Nat} (hx : x = nI p) : Ev true 49 [.inr (.inr (69, false, 0)), .inl x] τ (some (.inl (nI (thr t D p)))) τ := by
  refine Ev_wp 100 [4] rfl rfl ?_
  refine ⟨_, rfl, _, rfl, ?_⟩
  exact mv_there_l hA hT hx (nB t) 0 (by omega) 0 rfl
theorem mv_good_l {t : Sg} {D : Dy} {τ : Sg} (hA : Ag t D τ) (hT : WN t) {x : Int32} {p : Nat} (hx : x = nI p) : ∀ (k b : Nat), b + k = nB t → ∀ n, n = ct (isG D p) b → G true 50 (fun r' s' => r' = some (.inl (nI (gdn t D p))) ∧ s' = τ) 4 [some (.inr (.inr (69, false, 0))), some (.inl x), some (.inl (nI n)), some (.inl (nI b))] [] τ := by
  have eB := hA.B hT
  have hB := hT.B
  intro k
  induction k with
  | zero =>
    intro b hb n hn
    have hn2 := hn ▸ ct_le (isG D p) b
    refine G_wp 100 [4] rfl ?_
    refine br_ge rfl eB (by omega) (by omega) (fun h7 => ?_) (fun h7 => ?_)
    · rw [show b = nB t by omega] at hn
      exact ⟨by rw [hn]; rfl, rfl⟩
    · exact absurd h7 (by omega)
  | succ k ih =>
    intro b hb n hn
    have hn2 := hn ▸ ct_le (isG D p) b
    refine G_wp 100 [4] rfl ?_
    refine br_ge rfl eB (by omega) (by omega) (fun h7 => ?_) (fun h7 => ?_)
    · exact absurd h7 (by omega)
    · refine ⟨1232 + b, (add_n rfl rfl), (by show _ < 23184; omega), ?_⟩
      rw [hA.r11 b (by omega)]
      refine ⟨fun h15 => ?_, fun h15 => ?_⟩
      · refine ⟨nI (n + 0), (add_n rfl rfl), nI (b + 1), nI_add _ _, ?_⟩
        refine ih (b + 1) (by omega) _ ?_
        rw [ct_S, hn]
        simp_all [isG, isA]
      · refine ⟨1292 + b, (add_n rfl rfl), (by show _ < 23184; omega), ?_⟩
        rw [hA.r12 b (by omega)]
        refine ⟨fun h23 => ?_, fun h23 => ?_⟩
        · refine ⟨nI (n + 0), (add_n rfl rfl), nI (b + 1), nI_add _ _, ?_⟩
          refine ih (b + 1) (by omega) _ ?_
          rw [ct_S, hn]
          simp_all [isG, isA]
        · refine ⟨1412 + b, (add_n rfl rfl), (by show _ < 23184; omega), ?_⟩
          rw [hA.r14 b (by omega)]
          refine ⟨fun h30 => ?_, fun h30 => ?_⟩
          · refine ⟨nI (n + 0), (add_n rfl rfl), nI (b + 1), nI_add _ _, ?_⟩
            refine ih (b + 1) (by omega) _ ?_
            rw [ct_S, hn]
            simp_all [isG, isA]
          · refine ⟨nI (n + 1), (add_n rfl rfl), nI (b + 1), nI_add _ _, ?_⟩
            refine ih (b + 1) (by omega) _ ?_
            rw [ct_S, hn]
            simp_all [isG, isA]
theorem mv_good {t : Sg} {D : Dy} {τ : Sg} (hA : Ag t D τ) (hT : WN t) {x : Int32} {p : Nat} (hx : x = nI p) : Ev true 50 [.inr (.inr (69, false, 0)), .inl x] τ (some (.inl (nI (gdn t D p)))) τ := by
  refine Ev_wp 100 [4] rfl rfl ?_
  refine ⟨_, rfl, _, rfl, ?_⟩
  exact mv_good_l hA hT hx (nB t) 0 (by omega) 0 rfl
theorem mv_free {t : Sg} {D : Dy} {τ : Sg} (hA : Ag t D τ) (hT : WN t) {x : Int32} {p : Nat} (hx : x = nI p) (hp : p < nP t) : Ev true 111 [.inr (.inr (69, false, 0)), .inl (x)] τ (some (.inl (fre t D p))) τ := by
  have hP := hT.P
  refine Ev_wp 29 [] rfl rfl ?_
  refine ⟨p, hx, (by show _ < 12; omega), ?_⟩
  rw [hA.2 74 _ _ _ (by decide) rfl]
  refine ⟨_, _, mv_there hA hT hx, ?_⟩
  exact ⟨rfl, rfl⟩
theorem mv_way {t : Sg} {D : Dy} {τ : Sg} (hA : Ag t D τ) (hT : WN t) {x y : Int32} {p q : Nat} (hx : x = nI p) (hp : p < 12) (hy : y = nI q) (hq : q < 12) : Ev true 118 [.inr (.inr (69, false, 0)), .inl (x), .inl (y)] τ (some (.inl (way t p q))) τ := by
  have hP := hT.P
  refine Ev_wp 46 [] rfl rfl ?_
  refine ⟨p, hx, (by show _ < 12; omega), ?_⟩
  rw [hA.2 72 _ _ _ (by decide) rfl]
  refine ⟨q, hy, (by show _ < 12; omega), ?_⟩
  rw [hA.2 72 _ _ _ (by decide) rfl]
  refine ⟨_, _, mv_size, p, hx, (by show _ < 12; omega), ?_⟩
  rw [hA.2 73 _ _ _ (by decide) rfl]
  refine ⟨q, hy, (by show _ < 12; omega), ?_⟩
  rw [hA.2 73 _ _ _ (by decide) rfl]
  refine ⟨_, _, mv_size, (by decide), ?_⟩
  exact ⟨rfl, rfl⟩
theorem in_lt {x : Int32} {n : Nat} (hn : n < 2147483648) : (nI 0 ≤ x ∧ x ≤ nI n - nI 1) ↔ ∃ p, x = nI p ∧ p < n := by
  constructor
  · rintro ⟨h1, h2⟩
    cases n with
    | zero =>
      have h3 : nI 0 - nI 1 = -1 := by decide
      rw [h3] at h2
      rw [nI_0] at h1
      have := Int32.le_iff_toInt_le.mp h1
      have := Int32.le_iff_toInt_le.mp h2
      simp at *
      omega
    | succ n =>
      have h3 : nI (n + 1) - nI 1 = nI n := nI_pred n
      rw [h3] at h2
      rw [nI_0] at h1
      obtain ⟨j, hj, e⟩ := nI_of2 (M := nI n) (n := n) (nI_toInt (by omega)) (Int32.not_lt.mpr h1) h2
      exact ⟨j, e, by omega⟩
  · rintro ⟨p, rfl, hp⟩
    cases n with
    | zero => omega
    | succ n =>
      rw [show nI (n + 1) - nI 1 = nI n from nI_pred n]
      exact ⟨nI_le (Nat.zero_le _) (by omega), nI_le (by omega) (by omega)⟩
theorem isP_iff {t : Sg} (hT : WN t) {x : Int32} : (nI 0 ≤ x ∧ x ≤ t 69 false 0 3 - nI 1) ↔ ∃ p, x = nI p ∧ p < nP t := by
  rw [hT.1.1]
  exact in_lt (by have := hT.1.2; omega)
theorem isK_iff {t : Sg} (hT : WN t) {x : Int32} : (nI 0 ≤ x ∧ x ≤ t 69 false 0 7 - nI 1) ↔ ∃ p, x = nI p ∧ p < nB t := by
  rw [hT.2.1.1]
  exact in_lt (by have := hT.2.1.2; omega)
theorem isR_iff {t : Sg} (hT : WN t) {x : Int32} : (nI 0 ≤ x ∧ x ≤ t 69 false 0 9 - nI 1) ↔ ∃ p, x = nI p ∧ p < nR t := by
  rw [hT.2.2.1]
  exact in_lt (by have := hT.2.2.2; omega)
theorem mv_isPost {t : Sg} {D : Dy} {τ : Sg} (hA : Ag t D τ) {x : Int32} : Ev true 108 [.inr (.inr (69, false, 0)), .inl x] τ (some (.inl (bI (nI 0 ≤ x ∧ x ≤ t 69 false 0 3 - nI 1)))) τ := by
  rw [← hA.2 69 false 0 3 (by decide) rfl]
  refine Ev_wp 30 [] rfl rfl ?_
  exact ⟨_, _, mv_in, bI_01 _, rfl, rfl⟩
theorem mv_isBike {t : Sg} {D : Dy} {τ : Sg} (hA : Ag t D τ) {x : Int32} : Ev true 109 [.inr (.inr (69, false, 0)), .inl x] τ (some (.inl (bI (nI 0 ≤ x ∧ x ≤ t 69 false 0 7 - nI 1)))) τ := by
  rw [← hA.2 69 false 0 7 (by decide) rfl]
  refine Ev_wp 30 [] rfl rfl ?_
  exact ⟨_, _, mv_in, bI_01 _, rfl, rfl⟩
theorem mv_isBegun {t : Sg} {D : Dy} {τ : Sg} (hA : Ag t D τ) : Ev true 48 [.inr (.inr (69, false, 0))] τ (some (.inl (bI (nI 0 < D 0 0 ∨ nI 0 < t 69 false 0 18)))) τ := by
  have e := hA.2 69 false 0 18 (by decide) rfl
  refine Ev_wp 30 [] rfl rfl ?_
  refine ⟨0, rfl, (by show _ < 23184; omega), ?_⟩
  rw [hA.r0 0 (by decide)]
  refine ⟨fun h => ⟨Or.inr rfl, by rw [bI_t (Or.inl h)], rfl⟩, fun h => ⟨fun h2 => ?_, fun h2 => ?_⟩⟩
  · rw [e] at h2
    exact ⟨Or.inl rfl, by rw [bI_f (fun q => q.elim h (fun q => absurd q (Int32.not_lt.mpr h2)))], rfl⟩
  · rw [e] at h2
    exact ⟨Or.inr rfl, by rw [bI_t (Or.inr (i_nle h2))], rfl⟩
theorem mv_logs {t : Sg} {D : Dy} {τ : Sg} (hA : Ag t D τ) (hL : Is (D 0 7) 4000) {v1 v2 v3 v4 : Int32} : ∃ τ', Ev true 47 [.inr (.inr (69, false, 0)), .inl (v1), .inl (v2), .inl (v3), .inl (v4)] τ none τ' ∧ Ag t (lgs D v1 v2 v3 v4) τ' := by
  have hL2 := hL.2
  refine EvQ_wp 81 [] rfl rfl ?_
  refine ⟨7, rfl, (by show _ < 23184; omega), ?_⟩
  rw [hA.r0 7 (by decide)]
  refine br_ge (by first | exact hL.1 | (simp [up2]; exact hL.1)) rfl (by omega) (by omega) (fun h5 => ?_) (fun h5 => ?_)
  · refine ⟨rfl, ?_⟩
    have e : lgs D v1 v2 v3 v4 = D := by
      unfold lgs
      first | rw [if_pos h5] | rw [if_neg (by omega)]
      try simp [up2]
    rw [e]
    exact hA
  · refine ⟨7, rfl, (by show _ < 23184; omega), ?_⟩
    rw [hA.r0 7 (by decide)]
    refine ⟨nI (3184 + (5 * (nN (D 0 7)))), (add_n rfl (mul_n rfl (by first | exact hL.1 | (simp [up2]; exact hL.1)))), 3184 + (5 * (nN (D 0 7))), rfl, (by show _ < 23184; omega), _, rfl, ?_⟩
    replace hA := hA.w27 (5 * (nN (D 0 7))) (by omega) v1
    refine ⟨0, rfl, (by show _ < 23184; omega), ?_⟩
    rw [hA.r0 0 (by decide)]
    refine ⟨3184 + ((5 * (nN (D 0 7))) + 1), (add_nr rfl rfl), (by show _ < 23184; omega), _, rfl, ?_⟩
    replace hA := hA.w27 ((5 * (nN (D 0 7))) + 1) (by omega) ((up2 D 27 (5 * (nN (D 0 7))) v1) 0 0)
    refine ⟨3184 + ((5 * (nN (D 0 7))) + 2), (add_nr rfl rfl), (by show _ < 23184; omega), _, rfl, ?_⟩
    replace hA := hA.w27 ((5 * (nN (D 0 7))) + 2) (by omega) v2
    refine ⟨3184 + ((5 * (nN (D 0 7))) + 3), (add_nr rfl rfl), (by show _ < 23184; omega), _, rfl, ?_⟩
    replace hA := hA.w27 ((5 * (nN (D 0 7))) + 3) (by omega) v3
    refine ⟨3184 + ((5 * (nN (D 0 7))) + 4), (add_nr rfl rfl), (by show _ < 23184; omega), _, rfl, ?_⟩
    replace hA := hA.w27 ((5 * (nN (D 0 7))) + 4) (by omega) v4
    refine ⟨7, rfl, (by show _ < 23184; omega), ?_⟩
    rw [hA.r0 7 (by decide)]
    refine ⟨7, rfl, (by show _ < 23184; omega), nI ((nN (D 0 7)) + 1), (add_n (by first | exact hL.1 | (simp [up2]; exact hL.1)) rfl), ?_⟩
    replace hA := hA.w0 7 (by decide) (nI ((nN (D 0 7)) + 1))
    refine ⟨rfl, ?_⟩
    have e : lgs D v1 v2 v3 v4 = (up2 (up2 (up2 (up2 (up2 (up2 D 27 (5 * (nN (D 0 7))) v1) 27 ((5 * (nN (D 0 7))) + 1) ((up2 D 27 (5 * (nN (D 0 7))) v1) 0 0)) 27 ((5 * (nN (D 0 7))) + 2) v2) 27 ((5 * (nN (D 0 7))) + 3) v3) 27 ((5 * (nN (D 0 7))) + 4) v4) 0 7 (nI ((nN (D 0 7)) + 1))) := by
      unfold lgs
      first | rw [if_pos h5] | rw [if_neg (by omega)]
      try simp [up2]
    rw [e]
    exact hA
theorem mv_tells {t : Sg} {D : Dy} {τ : Sg} (hA : Ag t D τ) {x : Int32} {r : Nat} (hx : x = nI r) (hr : r < 200) : ∃ τ', Ev true 46 [.inr (.inr (69, false, 0)), .inl (x)] τ none τ' ∧ Ag t (tls D r) τ' := by
  refine EvQ_wp 63 [] rfl rfl ?_
  refine ⟨1532 + r, (add_n rfl hx), (by show _ < 23184; omega), _, rfl, ?_⟩
  replace hA := hA.w16 r (by omega) (nI (0))
  refine ⟨1732 + r, (add_n rfl hx), (by show _ < 23184; omega), _, rfl, ?_⟩
  replace hA := hA.w17 r (by omega) (-1)
  refine ⟨1932 + r, (add_n rfl hx), (by show _ < 23184; omega), _, rfl, ?_⟩
  replace hA := hA.w18 r (by omega) (-1)
  refine ⟨2132 + r, (add_n rfl hx), (by show _ < 23184; omega), _, rfl, ?_⟩
  replace hA := hA.w19 r (by omega) (-1)
  refine ⟨2332 + r, (add_n rfl hx), (by show _ < 23184; omega), _, rfl, ?_⟩
  replace hA := hA.w20 r (by omega) (-1)
  refine ⟨2532 + r, (add_n rfl hx), (by show _ < 23184; omega), _, rfl, ?_⟩
  replace hA := hA.w21 r (by omega) (nI (0))
  refine ⟨rfl, ?_⟩
  have e : tls D r = (up2 (up2 (up2 (up2 (up2 (up2 D 16 r (nI (0))) 17 r (-1)) 18 r (-1)) 19 r (-1)) 20 r (-1)) 21 r (nI (0))) := by
    rfl
  rw [e]
  exact hA
theorem pik_S (D : Dy) (p n : Nat) : pik D p (n + 1) = if isG D p n = true ∧ (∀ m, pik D p n = some m → D 13 n < D 13 m) then some n else pik D p n := rfl
theorem pik_lt (D : Dy) (p : Nat) : ∀ (n m : Nat), pik D p n = some m → m < n ∧ isG D p m = true
  | 0, m, h => by cases h
  | n + 1, m, h => by
    rw [pik_S] at h
    split at h
    next hc => cases h; exact ⟨by omega, hc.1⟩
    next => have := pik_lt D p n m h; exact ⟨by omega, this.2⟩
theorem mv_pick_l {t : Sg} {D : Dy} {τ : Sg} (hA : Ag t D τ) (hT : WN t) {x : Int32} {p : Nat} (hx : x = nI p) : ∀ (k b : Nat), b + k = nB t → G true 57 (fun r' s' => r' = some (.inl (oI (pik D p (nB t)))) ∧ s' = τ) 4 [some (.inr (.inr (69, false, 0))), some (.inl x), some (.inl (oI (pik D p b))), some (.inl (nI b)), none] [] τ := by
  have eB := hA.B hT
  have hB := hT.B
  intro k
  induction k with
  | zero =>
    intro b hb
    refine G_wp 100 [4] rfl ?_
    cases hpk : pik D p b with
    | none =>
      refine br_ge rfl eB (by omega) (by omega) (fun h7 => ?_) (fun h7 => ?_)
      · exact ⟨by rw [show b = nB t by omega] at hpk; rw [hpk], rfl⟩
      · exact absurd h7 (by omega)
    | some m =>
      refine br_ge rfl eB (by omega) (by omega) (fun h7 => ?_) (fun h7 => ?_)
      · exact ⟨by rw [show b = nB t by omega] at hpk; rw [hpk], rfl⟩
      · exact absurd h7 (by omega)
  | succ k ih =>
    intro b hb
    refine G_wp 100 [4] rfl ?_
    cases hpk : pik D p b with
    | none =>
      refine br_ge rfl eB (by omega) (by omega) (fun h7 => ?_) (fun h7 => ?_)
      · exact absurd h7 (by omega)
      · refine ⟨1232 + b, (add_n rfl rfl), (by show _ < 23184; omega), ?_⟩
        rw [hA.r11 b (by omega)]
        refine ⟨fun h14 => ?_, fun h14 => ?_⟩
        · refine ⟨_, rfl, ?_⟩
          refine br_eq rfl rfl (by omega) (by omega) (fun h35 => ?_) (fun h35 => ?_)
          · refine ⟨oI (pik D p (b + 1)), (by rw [pik_S]; first | (rw [if_pos (by simp_all [isG, isA])]; rfl) | (rw [if_neg (by simp_all [isG, isA])]; simp [hpk, oI])), nI (b + 1), nI_add _ _, ?_⟩
            refine G_fg 4 ?_
            exact ih (b + 1) (by omega)
          · exact absurd h35 (by omega)
        · refine ⟨1292 + b, (add_n rfl rfl), (by show _ < 23184; omega), ?_⟩
          rw [hA.r12 b (by omega)]
          refine ⟨fun h22 => ?_, fun h22 => ?_⟩
          · refine ⟨_, rfl, ?_⟩
            refine br_eq rfl rfl (by omega) (by omega) (fun h35 => ?_) (fun h35 => ?_)
            · refine ⟨oI (pik D p (b + 1)), (by rw [pik_S]; first | (rw [if_pos (by simp_all [isG, isA])]; rfl) | (rw [if_neg (by simp_all [isG, isA])]; simp [hpk, oI])), nI (b + 1), nI_add _ _, ?_⟩
              refine G_fg 4 ?_
              exact ih (b + 1) (by omega)
            · exact absurd h35 (by omega)
          · refine ⟨1412 + b, (add_n rfl rfl), (by show _ < 23184; omega), ?_⟩
            rw [hA.r14 b (by omega)]
            refine ⟨fun h29 => ?_, fun h29 => ?_⟩
            · refine ⟨_, rfl, ?_⟩
              refine br_eq rfl rfl (by omega) (by omega) (fun h35 => ?_) (fun h35 => ?_)
              · refine ⟨oI (pik D p (b + 1)), (by rw [pik_S]; first | (rw [if_pos (by simp_all [isG, isA])]; rfl) | (rw [if_neg (by simp_all [isG, isA])]; simp [hpk, oI])), nI (b + 1), nI_add _ _, ?_⟩
                refine G_fg 4 ?_
                exact ih (b + 1) (by omega)
              · exact absurd h35 (by omega)
            · refine ⟨_, rfl, ?_⟩
              refine br_eq rfl rfl (by omega) (by omega) (fun h35 => ?_) (fun h35 => ?_)
              · exact absurd h35 (by omega)
              · refine ⟨fun h38 => ?_, fun h38 => ?_⟩
                · refine ⟨oI (pik D p (b + 1)), (by rw [pik_S]; first | (rw [if_pos (by simp_all [isG, isA])]; rfl) | (rw [if_neg (by simp_all [isG, isA])]; simp [hpk, oI])), nI (b + 1), nI_add _ _, ?_⟩
                  refine G_fg 4 ?_
                  exact ih (b + 1) (by omega)
                · exact absurd h38 (by simp [oI])
    | some m =>
      have hm := (pik_lt D p b m hpk).1
      refine br_ge rfl eB (by omega) (by omega) (fun h7 => ?_) (fun h7 => ?_)
      · exact absurd h7 (by omega)
      · refine ⟨1232 + b, (add_n rfl rfl), (by show _ < 23184; omega), ?_⟩
        rw [hA.r11 b (by omega)]
        refine ⟨fun h14 => ?_, fun h14 => ?_⟩
        · refine ⟨_, rfl, ?_⟩
          refine br_eq rfl rfl (by omega) (by omega) (fun h35 => ?_) (fun h35 => ?_)
          · refine ⟨oI (pik D p (b + 1)), (by rw [pik_S]; first | (rw [if_pos (by simp_all [isG, isA])]; rfl) | (rw [if_neg (by simp_all [isG, isA])]; simp [hpk, oI])), nI (b + 1), nI_add _ _, ?_⟩
            refine G_fg 4 ?_
            exact ih (b + 1) (by omega)
          · exact absurd h35 (by omega)
        · refine ⟨1292 + b, (add_n rfl rfl), (by show _ < 23184; omega), ?_⟩
          rw [hA.r12 b (by omega)]
          refine ⟨fun h22 => ?_, fun h22 => ?_⟩
          · refine ⟨_, rfl, ?_⟩
            refine br_eq rfl rfl (by omega) (by omega) (fun h35 => ?_) (fun h35 => ?_)
            · refine ⟨oI (pik D p (b + 1)), (by rw [pik_S]; first | (rw [if_pos (by simp_all [isG, isA])]; rfl) | (rw [if_neg (by simp_all [isG, isA])]; simp [hpk, oI])), nI (b + 1), nI_add _ _, ?_⟩
              refine G_fg 4 ?_
              exact ih (b + 1) (by omega)
            · exact absurd h35 (by omega)
          · refine ⟨1412 + b, (add_n rfl rfl), (by show _ < 23184; omega), ?_⟩
            rw [hA.r14 b (by omega)]
            refine ⟨fun h29 => ?_, fun h29 => ?_⟩
            · refine ⟨_, rfl, ?_⟩
              refine br_eq rfl rfl (by omega) (by omega) (fun h35 => ?_) (fun h35 => ?_)
              · refine ⟨oI (pik D p (b + 1)), (by rw [pik_S]; first | (rw [if_pos (by simp_all [isG, isA])]; rfl) | (rw [if_neg (by simp_all [isG, isA])]; simp [hpk, oI])), nI (b + 1), nI_add _ _, ?_⟩
                refine G_fg 4 ?_
                exact ih (b + 1) (by omega)
              · exact absurd h35 (by omega)
            · refine ⟨_, rfl, ?_⟩
              refine br_eq rfl rfl (by omega) (by omega) (fun h35 => ?_) (fun h35 => ?_)
              · exact absurd h35 (by omega)
              · refine ⟨fun h38 => ?_, fun h38 => ?_⟩
                · exact absurd h38 (nI_m1 (by omega))
                · refine ⟨1352 + b, (add_n rfl rfl), (by show _ < 23184; omega), ?_⟩
                  rw [hA.r13 b (by omega)]
                  refine ⟨1352 + m, (add_n rfl rfl), (by show _ < 23184; omega), ?_⟩
                  rw [hA.r13 m (by omega)]
                  refine ⟨fun h51 => ?_, fun h51 => ?_⟩
                  · refine ⟨oI (pik D p (b + 1)), (by rw [pik_S]; first | (rw [if_pos (by simp_all [isG, isA])]; rfl) | (rw [if_neg (by simp_all [isG, isA])]; simp [hpk, oI])), nI (b + 1), nI_add _ _, ?_⟩
                    refine G_fg 4 ?_
                    exact ih (b + 1) (by omega)
                  · refine ⟨oI (pik D p (b + 1)), (by rw [pik_S]; first | (rw [if_pos (by simp_all [isG, isA])]; rfl) | (rw [if_neg (by simp_all [isG, isA])]; simp [hpk, oI])), nI (b + 1), nI_add _ _, ?_⟩
                    refine G_fg 4 ?_
                    exact ih (b + 1) (by omega)
theorem mv_pick {t : Sg} {D : Dy} {τ : Sg} (hA : Ag t D τ) (hT : WN t) {x : Int32} {p : Nat} (hx : x = nI p) : Ev true 57 [.inr (.inr (69, false, 0)), .inl x] τ (some (.inl (oI (pik D p (nB t))))) τ := by
  refine Ev_wp 100 [4] rfl rfl ?_
  refine ⟨_, rfl, _, rfl, ?_⟩
  exact mv_pick_l hA hT hx (nB t) 0 (by omega)
