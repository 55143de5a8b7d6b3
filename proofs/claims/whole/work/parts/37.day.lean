/-! The class beside the model: a day. -/
def scc (k i : Nat) : Bool := (k == 12 && i == 7) || (18 ≤ k && k ≤ 20)
/-- all but the day d, and what is used over and over, is as in s -/
def Fr (d : Bool) (s σ : Sg) : Prop := ∀ k d' r i, ¬ (26 ≤ k ∧ k ≤ 47 ∧ d' = d) → scc k i = false → σ k d' r i = s k d' r i
def wtx (t : Sg) (D : Dy) (er p : Nat) : Nat := ct (fun r => !(r == er) && (decide (D 16 r = nI 1) && decide (t 77 false 0 r = nI p))) (nR t)
abbrev Zt : Type := (Nat → Nat → Int32) × (Nat → Int32) × Int32
def Rm (d : Bool) (D : Dy) (Z : Zt) (σ : Sg) : Prop := σ 26 d 0 4 = D 0 0 ∧ σ 26 d 0 5 = Z.2.2 ∧ σ 37 d 0 2 = D 0 1 ∧ σ 37 d 0 0 = (if d = true then nI 0 else nI 4000) ∧ σ 37 d 0 1 = (if d = true then nI 0 else D 0 7)
def Rp (d : Bool) (t : Sg) (D : Dy) (σ : Sg) : Prop := ∀ p, p < nP t → σ 27 d 0 p = D 1 p ∧ σ 28 d 0 p = D 2 p
def Rc (d : Bool) (t : Sg) (D : Dy) (σ : Sg) : Prop := ∀ p, p < nP t → σ 29 d 0 p = nI (thr t D p) ∧ σ 30 d 0 p = nI (gdn t D p)
def Rw (d : Bool) (t : Sg) (D : Dy) (er : Nat) (σ : Sg) : Prop := ∀ p, p < nP t → σ 31 d 0 p = nI (wtx t D er p)
def Rb (d : Bool) (t : Sg) (D : Dy) (eb : Nat) (σ : Sg) : Prop := ∀ b, b < nB t → (σ 32 d 1 b = D 11 b ∧ σ 32 d 3 b = D 13 b ∧ σ 32 d 4 b = D 14 b) ∧ (¬ b = eb → σ 32 d 2 b = (if D 11 b = nI 2 then -1 else D 12 b) ∧ (D 11 b = nI 3 → σ 33 d 0 b = D 15 b))
def Rr (d : Bool) (t : Sg) (D : Dy) (er : Nat) (σ : Sg) : Prop := ∀ r, r < nR t → (∀ w, w < 6 → σ 34 d (w + 1) r = D (16 + w) r) ∧ (¬ r = er → D 16 r = nI 2 → σ 35 d 0 r = D 22 r)
def Rg (d : Bool) (D : Dy) (σ : Sg) : Prop := ∀ p h, p < 12 → h < 24 → σ 39 d (p + 1) h = D 7 (24 * p + h) ∧ σ 40 d (p + 1) h = D 8 (24 * p + h) ∧ σ 41 d (p + 1) h = D 9 (24 * p + h)
def Rz (d : Bool) (Z : Zt) (σ : Sg) : Prop := (∀ p h, p < 12 → h < 24 → σ 42 d (p + 1) h = Z.1 p h) ∧ ∀ p, p < 12 → σ 43 d 0 p = Z.2.1 p
def Rl (d : Bool) (D : Dy) (σ : Sg) : Prop := d = false → ∀ i w, i < nN (D 0 7) → w < 5 → σ 38 d (w + 1) i = D 27 (5 * i + w)
def Rv (d : Bool) (D : Dy) (σ : Sg) : Prop := σ 44 d 0 0 = D 0 2 ∧ σ 44 d 0 1 = D 0 3 ∧ σ 44 d 0 2 = D 0 6 ∧ σ 44 d 0 3 = D 0 5 ∧ (∀ i, i < nN (D 0 3) → σ 45 d 0 i = D 24 i) ∧ ∀ i, i < nN (D 0 6) → σ 46 d 0 i = D 25 i ∧ σ 47 d 0 i = D 26 i
def RD (d : Bool) (t : Sg) (D : Dy) (eb er : Nat) (Z : Zt) (σ : Sg) : Prop := Rm d D Z σ ∧ Rp d t D σ ∧ Rc d t D σ ∧ Rw d t D er σ ∧ Rb d t D eb σ ∧ Rr d t D er σ ∧ Rg d D σ ∧ Rz d Z σ ∧ Rl d D σ ∧ Rv d D σ
def Cg (d : Bool) (s t : Sg) (D : Dy) (eb er : Nat) (Z : Zt) (σ : Sg) : Prop := TR s t ∧ Fr d s σ ∧ RD d t D eb er Z σ
theorem Fr_rf (d : Bool) (σ : Sg) : Fr d σ σ := fun _ _ _ _ _ _ => rfl
theorem Fr_w {d : Bool} {s σ : Sg} (h : Fr d s σ) {k r i : Nat} (v : Int32) (hk : 26 ≤ k ∧ k ≤ 47) : Fr d s (up4 σ k d r i v) := by
  intro k' d' r' i' h1 h2
  unfold up4
  rw [if_neg (fun q => h1 ⟨by omega, by omega, q.2.1⟩)]
  exact h k' d' r' i' h1 h2
theorem Fr_x {d : Bool} {s σ : Sg} (h : Fr d s σ) {k r i : Nat} {d2 : Bool} (v : Int32) (hk : scc k i = true) : Fr d s (up4 σ k d2 r i v) := by
  intro k' d' r' i' h1 h2
  unfold up4
  rw [if_neg (fun q => ?_)]
  · exact h k' d' r' i' h1 h2
  · rw [q.1, q.2.2.2, hk] at h2
    cases h2
theorem Fr_k {d : Bool} {s σ : Sg} (h : Fr d s σ) {k : Nat} (hk : k < 26) (r i : Nat) (hs : scc k i = false) : σ k false r i = s k false r i := h k false r i (by omega) hs
theorem Cg.tr {d : Bool} {s t : Sg} {D : Dy} {eb er : Nat} {Z : Zt} {σ : Sg} (h : Cg d s t D eb er Z σ) : TR s t := h.1
theorem Cg.m {d : Bool} {s t : Sg} {D : Dy} {eb er : Nat} {Z : Zt} {σ : Sg} (h : Cg d s t D eb er Z σ) : Rm d D Z σ := h.2.2.1
theorem Cg.p {d : Bool} {s t : Sg} {D : Dy} {eb er : Nat} {Z : Zt} {σ : Sg} (h : Cg d s t D eb er Z σ) : Rp d t D σ := h.2.2.2.1
theorem Cg.c {d : Bool} {s t : Sg} {D : Dy} {eb er : Nat} {Z : Zt} {σ : Sg} (h : Cg d s t D eb er Z σ) : Rc d t D σ := h.2.2.2.2.1
theorem Cg.w {d : Bool} {s t : Sg} {D : Dy} {eb er : Nat} {Z : Zt} {σ : Sg} (h : Cg d s t D eb er Z σ) : Rw d t D er σ := h.2.2.2.2.2.1
theorem Cg.b {d : Bool} {s t : Sg} {D : Dy} {eb er : Nat} {Z : Zt} {σ : Sg} (h : Cg d s t D eb er Z σ) : Rb d t D eb σ := h.2.2.2.2.2.2.1
theorem Cg.r {d : Bool} {s t : Sg} {D : Dy} {eb er : Nat} {Z : Zt} {σ : Sg} (h : Cg d s t D eb er Z σ) : Rr d t D er σ := h.2.2.2.2.2.2.2.1
theorem Cg.g {d : Bool} {s t : Sg} {D : Dy} {eb er : Nat} {Z : Zt} {σ : Sg} (h : Cg d s t D eb er Z σ) : Rg d D σ := h.2.2.2.2.2.2.2.2.1
theorem Cg.z {d : Bool} {s t : Sg} {D : Dy} {eb er : Nat} {Z : Zt} {σ : Sg} (h : Cg d s t D eb er Z σ) : Rz d Z σ := h.2.2.2.2.2.2.2.2.2.1
theorem Cg.l {d : Bool} {s t : Sg} {D : Dy} {eb er : Nat} {Z : Zt} {σ : Sg} (h : Cg d s t D eb er Z σ) : Rl d D σ := h.2.2.2.2.2.2.2.2.2.2.1
theorem Cg.v {d : Bool} {s t : Sg} {D : Dy} {eb er : Nat} {Z : Zt} {σ : Sg} (h : Cg d s t D eb er Z σ) : Rv d D σ := h.2.2.2.2.2.2.2.2.2.2.2
theorem Cg.c1_0 {d : Bool} {s t : Sg} {D : Dy} {eb er : Nat} {Z : Zt} {σ : Sg} (h : Cg d s t D eb er Z σ) : σ 1 false 0 0 = t 69 false 0 3 := (Fr_k h.2.1 (by decide) 0 0 rfl).trans h.1.c1_0
theorem Cg.c1_1 {d : Bool} {s t : Sg} {D : Dy} {eb er : Nat} {Z : Zt} {σ : Sg} (h : Cg d s t D eb er Z σ) : σ 1 false 0 1 = t 69 false 0 7 := (Fr_k h.2.1 (by decide) 0 1 rfl).trans h.1.c1_1
theorem Cg.c1_2 {d : Bool} {s t : Sg} {D : Dy} {eb er : Nat} {Z : Zt} {σ : Sg} (h : Cg d s t D eb er Z σ) : σ 1 false 0 2 = t 69 false 0 9 := (Fr_k h.2.1 (by decide) 0 2 rfl).trans h.1.c1_2
theorem Cg.c1_3 {d : Bool} {s t : Sg} {D : Dy} {eb er : Nat} {Z : Zt} {σ : Sg} (h : Cg d s t D eb er Z σ) : σ 1 false 0 3 = t 69 false 0 16 := (Fr_k h.2.1 (by decide) 0 3 rfl).trans h.1.c1_3
theorem Cg.c1_4 {d : Bool} {s t : Sg} {D : Dy} {eb er : Nat} {Z : Zt} {σ : Sg} (h : Cg d s t D eb er Z σ) : σ 1 false 0 4 = t 69 false 0 17 := (Fr_k h.2.1 (by decide) 0 4 rfl).trans h.1.c1_4
theorem Cg.c12_1 {d : Bool} {s t : Sg} {D : Dy} {eb er : Nat} {Z : Zt} {σ : Sg} (h : Cg d s t D eb er Z σ) : σ 12 false 0 1 = t 69 false 0 20 := (Fr_k h.2.1 (by decide) 0 1 rfl).trans h.1.c12_1
theorem Cg.c12_2 {d : Bool} {s t : Sg} {D : Dy} {eb er : Nat} {Z : Zt} {σ : Sg} (h : Cg d s t D eb er Z σ) : σ 12 false 0 2 = t 69 false 0 22 := (Fr_k h.2.1 (by decide) 0 2 rfl).trans h.1.c12_2
theorem Cg.c21_0 {d : Bool} {s t : Sg} {D : Dy} {eb er : Nat} {Z : Zt} {σ : Sg} (h : Cg d s t D eb er Z σ) : σ 21 false 0 0 = t 69 false 0 18 := (Fr_k h.2.1 (by decide) 0 0 rfl).trans h.1.c21_0
theorem Cg.c2 {d : Bool} {s t : Sg} {D : Dy} {eb er : Nat} {Z : Zt} {σ : Sg} (h : Cg d s t D eb er Z σ) (i : Nat) (hi : i < 12) : σ 2 false 0 i = t 72 false 0 i := (Fr_k h.2.1 (by decide) 0 i rfl).trans (h.1.c2 i hi)
theorem Cg.c3 {d : Bool} {s t : Sg} {D : Dy} {eb er : Nat} {Z : Zt} {σ : Sg} (h : Cg d s t D eb er Z σ) (i : Nat) (hi : i < 12) : σ 3 false 0 i = t 73 false 0 i := (Fr_k h.2.1 (by decide) 0 i rfl).trans (h.1.c3 i hi)
theorem Cg.c4 {d : Bool} {s t : Sg} {D : Dy} {eb er : Nat} {Z : Zt} {σ : Sg} (h : Cg d s t D eb er Z σ) (i : Nat) (hi : i < 12) : σ 4 false 0 i = t 74 false 0 i := (Fr_k h.2.1 (by decide) 0 i rfl).trans (h.1.c4 i hi)
theorem Cg.c5 {d : Bool} {s t : Sg} {D : Dy} {eb er : Nat} {Z : Zt} {σ : Sg} (h : Cg d s t D eb er Z σ) (i : Nat) (hi : i < 60) : σ 5 false 0 i = t 75 false 0 i := (Fr_k h.2.1 (by decide) 0 i rfl).trans (h.1.c5 i hi)
theorem Cg.c6 {d : Bool} {s t : Sg} {D : Dy} {eb er : Nat} {Z : Zt} {σ : Sg} (h : Cg d s t D eb er Z σ) (i : Nat) (hi : i < 200) : σ 6 false 0 i = t 76 false 0 i := (Fr_k h.2.1 (by decide) 0 i rfl).trans (h.1.c6 i hi)
theorem Cg.c7 {d : Bool} {s t : Sg} {D : Dy} {eb er : Nat} {Z : Zt} {σ : Sg} (h : Cg d s t D eb er Z σ) (i : Nat) (hi : i < 200) : σ 7 false 0 i = t 77 false 0 i := (Fr_k h.2.1 (by decide) 0 i rfl).trans (h.1.c7 i hi)
theorem Cg.c8 {d : Bool} {s t : Sg} {D : Dy} {eb er : Nat} {Z : Zt} {σ : Sg} (h : Cg d s t D eb er Z σ) (i : Nat) (hi : i < 200) : σ 8 false 0 i = t 78 false 0 i := (Fr_k h.2.1 (by decide) 0 i rfl).trans (h.1.c8 i hi)
theorem Cg.c9 {d : Bool} {s t : Sg} {D : Dy} {eb er : Nat} {Z : Zt} {σ : Sg} (h : Cg d s t D eb er Z σ) (i : Nat) (hi : i < 200) : σ 9 false 0 i = t 79 false 0 i := (Fr_k h.2.1 (by decide) 0 i rfl).trans (h.1.c9 i hi)
theorem Cg.c10 {d : Bool} {s t : Sg} {D : Dy} {eb er : Nat} {Z : Zt} {σ : Sg} (h : Cg d s t D eb er Z σ) (i : Nat) (hi : i < 4) : σ 10 false 0 i = t 80 false 0 i := (Fr_k h.2.1 (by decide) 0 i rfl).trans (h.1.c10 i hi)
theorem Cg.c11 {d : Bool} {s t : Sg} {D : Dy} {eb er : Nat} {Z : Zt} {σ : Sg} (h : Cg d s t D eb er Z σ) (i : Nat) (hi : i < 4) : σ 11 false 0 i = t 81 false 0 i := (Fr_k h.2.1 (by decide) 0 i rfl).trans (h.1.c11 i hi)
theorem Cg.c13 {d : Bool} {s t : Sg} {D : Dy} {eb er : Nat} {Z : Zt} {σ : Sg} (h : Cg d s t D eb er Z σ) (i : Nat) (hi : i < 40) : σ 13 false 0 i = t 83 false 0 i := (Fr_k h.2.1 (by decide) 0 i rfl).trans (h.1.c13 i hi)
theorem Cg.c15 {d : Bool} {s t : Sg} {D : Dy} {eb er : Nat} {Z : Zt} {σ : Sg} (h : Cg d s t D eb er Z σ) (i : Nat) (hi : i < 10) : σ 15 false 0 i = t 84 false 0 i := (Fr_k h.2.1 (by decide) 0 i rfl).trans (h.1.c15 i hi)
theorem Cg.c14 {d : Bool} {s t : Sg} {D : Dy} {eb er : Nat} {Z : Zt} {σ : Sg} (h : Cg d s t D eb er Z σ) (r : Nat) (hr : r < 10) (i : Nat) (hi : i < 40) : σ 14 false (r + 1) i = t 85 false 0 (40 * r + i) := (Fr_k h.2.1 (by decide) _ i rfl).trans (h.1.c14 r hr i hi)
theorem Cg.c22 {d : Bool} {s t : Sg} {D : Dy} {eb er : Nat} {Z : Zt} {σ : Sg} (h : Cg d s t D eb er Z σ) (i : Nat) (hi : i < 200) : σ 22 false 0 i = t 82 false 0 (4 * i) := (Fr_k h.2.1 (by decide) 0 i rfl).trans (h.1.c22 i hi)
theorem Cg.c23 {d : Bool} {s t : Sg} {D : Dy} {eb er : Nat} {Z : Zt} {σ : Sg} (h : Cg d s t D eb er Z σ) (i : Nat) (hi : i < 200) : σ 23 false 0 i = t 82 false 0 (4 * i + 1) := (Fr_k h.2.1 (by decide) 0 i rfl).trans (h.1.c23 i hi)
theorem Cg.c24 {d : Bool} {s t : Sg} {D : Dy} {eb er : Nat} {Z : Zt} {σ : Sg} (h : Cg d s t D eb er Z σ) (i : Nat) (hi : i < 200) : σ 24 false 0 i = t 82 false 0 (4 * i + 2) := (Fr_k h.2.1 (by decide) 0 i rfl).trans (h.1.c24 i hi)
theorem Cg.c25 {d : Bool} {s t : Sg} {D : Dy} {eb er : Nat} {Z : Zt} {σ : Sg} (h : Cg d s t D eb er Z σ) (i : Nat) (hi : i < 200) : σ 25 false 0 i = t 82 false 0 (4 * i + 3) := (Fr_k h.2.1 (by decide) 0 i rfl).trans (h.1.c25 i hi)
theorem thr_cong {t : Sg} {D D' : Dy} {p : Nat} (h : ∀ b, D' 11 b = D 11 b ∧ D' 12 b = D 12 b) : thr t D' p = thr t D p := ct_cong (fun b _ => by unfold isA; rw [(h b).1, (h b).2])
theorem gdn_cong {t : Sg} {D D' : Dy} {p : Nat} (h : ∀ b, D' 11 b = D 11 b ∧ D' 12 b = D 12 b ∧ D' 14 b = D 14 b) : gdn t D' p = gdn t D p := ct_cong (fun b _ => by unfold isG isA; rw [(h b).1, (h b).2.1, (h b).2.2])
theorem wtx_cong {t : Sg} {D D' : Dy} {er p : Nat} (h : ∀ r, ¬ r = er → D' 16 r = D 16 r) : wtx t D' er p = wtx t D er p := ct_cong (fun r _ => by
  by_cases e : r = er
  · simp [e]
  · rw [h r e])
theorem Rm_c {d : Bool} {D D' : Dy} {Z : Zt} {σ σ' : Sg} (h : Rm d D Z σ) (hs : ∀ k r i, (k = 26 ∨ k = 37) → σ' k d r i = σ k d r i) (hD : ∀ i, (i = 0 ∨ i = 1 ∨ i = 7) → D' 0 i = D 0 i) : Rm d D' Z σ' := by
  unfold Rm at h ⊢
  rw [hs 26 _ _ (by omega), hs 26 _ _ (by omega), hs 37 _ _ (by omega), hs 37 _ _ (by omega), hs 37 _ _ (by omega), hD 0 (by omega), hD 1 (by omega), hD 7 (by omega)]
  exact h
theorem Rp_c {d : Bool} {t : Sg} {D D' : Dy} {σ σ' : Sg} (h : Rp d t D σ) (hs : ∀ k r i, (k = 27 ∨ k = 28) → σ' k d r i = σ k d r i) (hD : ∀ f i, (f = 1 ∨ f = 2) → D' f i = D f i) : Rp d t D' σ' := by
  intro p hp
  rw [hs 27 _ _ (by omega), hs 28 _ _ (by omega), hD 1 _ (by omega), hD 2 _ (by omega)]
  exact h p hp
theorem Rc_c {d : Bool} {t : Sg} {D D' : Dy} {σ σ' : Sg} (h : Rc d t D σ) (hs : ∀ k r i, (k = 29 ∨ k = 30) → σ' k d r i = σ k d r i) (hD : ∀ f i, (f = 11 ∨ f = 12 ∨ f = 14) → D' f i = D f i) : Rc d t D' σ' := by
  intro p hp
  rw [hs 29 _ _ (by omega), hs 30 _ _ (by omega), thr_cong (fun b => ⟨hD 11 b (by omega), hD 12 b (by omega)⟩), gdn_cong (fun b => ⟨hD 11 b (by omega), hD 12 b (by omega), hD 14 b (by omega)⟩)]
  exact h p hp
theorem Rw_c {d : Bool} {t : Sg} {D D' : Dy} {er : Nat} {σ σ' : Sg} (h : Rw d t D er σ) (hs : ∀ k r i, (k = 31) → σ' k d r i = σ k d r i) (hD : ∀ r, ¬ r = er → D' 16 r = D 16 r) : Rw d t D' er σ' := by
  intro p hp
  rw [hs 31 _ _ (by omega), wtx_cong (D := D) (fun r hr => hD r hr)]
  exact h p hp
theorem Rb_c {d : Bool} {t : Sg} {D D' : Dy} {eb : Nat} {σ σ' : Sg} (h : Rb d t D eb σ) (hs : ∀ k r i, (k = 32 ∨ k = 33) → σ' k d r i = σ k d r i) (hD : ∀ f i, (11 ≤ f ∧ f ≤ 15) → D' f i = D f i) : Rb d t D' eb σ' := by
  intro b hb
  rw [hs 32 _ _ (by omega), hs 32 _ _ (by omega), hs 32 _ _ (by omega), hs 32 _ _ (by omega), hs 33 _ _ (by omega), hD 11 _ (by omega), hD 12 _ (by omega), hD 13 _ (by omega), hD 14 _ (by omega), hD 15 _ (by omega)]
  exact h b hb
theorem Rr_c {d : Bool} {t : Sg} {D D' : Dy} {er : Nat} {σ σ' : Sg} (h : Rr d t D er σ) (hs : ∀ k r i, (k = 34 ∨ k = 35) → σ' k d r i = σ k d r i) (hD : ∀ f i, (16 ≤ f ∧ f ≤ 22) → D' f i = D f i) : Rr d t D' er σ' := by
  intro r hr
  refine ⟨fun w hw => ?_, fun h1 h2 => ?_⟩
  · rw [hs 34 _ _ (by omega), hD _ _ (by omega)]
    exact (h r hr).1 w hw
  · rw [hs 35 _ _ (by omega), hD _ _ (by omega)]
    exact (h r hr).2 h1 (by rw [← hD 16 r (by omega)]; exact h2)
theorem Rg_c {d : Bool} {D D' : Dy} {σ σ' : Sg} (h : Rg d D σ) (hs : ∀ k r i, (k = 39 ∨ k = 40 ∨ k = 41) → σ' k d r i = σ k d r i) (hD : ∀ f i, (7 ≤ f ∧ f ≤ 9) → D' f i = D f i) : Rg d D' σ' := by
  intro p x hp hx
  rw [hs 39 _ _ (by omega), hs 40 _ _ (by omega), hs 41 _ _ (by omega), hD 7 _ (by omega), hD 8 _ (by omega), hD 9 _ (by omega)]
  exact h p x hp hx
theorem Rz_c {d : Bool} {Z : Zt} {σ σ' : Sg} (h : Rz d Z σ) (hs : ∀ k r i, (k = 42 ∨ k = 43) → σ' k d r i = σ k d r i)  : Rz d Z σ' := by
  exact ⟨fun p x hp hx => (hs 42 _ _ (by omega)).trans (h.1 p x hp hx), fun p hp => (hs 43 _ _ (by omega)).trans (h.2 p hp)⟩
theorem Rl_c {d : Bool} {D D' : Dy} {σ σ' : Sg} (h : Rl d D σ) (hs : ∀ k r i, (k = 38) → σ' k d r i = σ k d r i) (hD : ∀ f i, (f = 27 ∨ (f = 0 ∧ i = 7)) → D' f i = D f i) : Rl d D' σ' := by
  intro hd i w hi hw
  rw [hD 0 7 (by omega)] at hi
  rw [hs 38 _ _ (by omega), hD 27 _ (by omega)]
  exact h hd i w hi hw
theorem Rv_c {d : Bool} {D D' : Dy} {σ σ' : Sg} (h : Rv d D σ) (hs : ∀ k r i, (k = 44 ∨ k = 45 ∨ k = 46 ∨ k = 47) → σ' k d r i = σ k d r i) (hD : ∀ f i, (f = 24 ∨ f = 25 ∨ f = 26 ∨ (f = 0 ∧ (i = 2 ∨ i = 3 ∨ i = 5 ∨ i = 6))) → D' f i = D f i) : Rv d D' σ' := by
  unfold Rv at h ⊢
  rw [hs 44 _ _ (by omega), hs 44 _ _ (by omega), hs 44 _ _ (by omega), hs 44 _ _ (by omega), hD 0 2 (by omega), hD 0 3 (by omega), hD 0 5 (by omega), hD 0 6 (by omega)]
  refine ⟨h.1, h.2.1, h.2.2.1, h.2.2.2.1, fun i hi => ?_, fun i hi => ?_⟩
  · rw [hs 45 _ _ (by omega), hD 24 _ (by omega)]
    exact h.2.2.2.2.1 i hi
  · rw [hs 46 _ _ (by omega), hs 47 _ _ (by omega), hD 25 _ (by omega), hD 26 _ (by omega)]
    exact h.2.2.2.2.2 i hi
