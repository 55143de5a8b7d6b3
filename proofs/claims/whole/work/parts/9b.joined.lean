/-! Each call of both: the same answer, and all holds on. -/
def INV (σ τ : Sg) : Prop := ∃ t D Z, Ag t D τ ∧ CK t D Z σ ∧ KV t D
theorem CK_28 {t t2 : Sg} {D D2 : Dy} {Z : Zt} {σ : Sg} (h : CK t D Z σ) (ht : ∀ k d i j, ¬ k = 71 → t2 k d i j = t k d i j) (hD : ∀ f i, ¬ f = 28 → D2 f i = D f i) : CK t2 D2 Z σ := by
  obtain ⟨⟨⟨hTR, hF, hR⟩, hM, hO, hOF, hZ, hN⟩, hH, hz⟩ := h
  have hs : SC t2 t := ⟨⟨ht _ _ _ _ (by decide), ht _ _ _ _ (by decide), ht _ _ _ _ (by decide)⟩, fun r => ht _ _ _ _ (by decide)⟩
  have eP := hs.P
  have eB := hs.B
  have eR := hs.R
  have d : ∀ f, ¬ f = 28 → D2 f = D f := fun f hf => funext fun i => hD f i hf
  have h1 : ∀ p, thr t D2 p = thr t D p := fun p => by unfold thr isA; rw [d 11 (by omega), d 12 (by omega)]
  have h2 : ∀ p, gdn t D2 p = gdn t D p := fun p => by unfold gdn isG isA; rw [d 11 (by omega), d 12 (by omega), d 14 (by omega)]
  have h3 : ∀ p, wtx t D2 200 p = wtx t D 200 p := fun p => by unfold wtx; rw [d 16 (by omega)]
  have hRD : RD false t D2 60 200 Z σ := by
    obtain ⟨r1, r2, r3, r4, r5, r6, r7, r8, r9, r10⟩ := hR
    refine ⟨?_, ?_, ?_, ?_, ?_, fun r hr => ⟨fun w hw => ?_, fun q1 q2 => ?_⟩, ?_, r8, ?_, ?_⟩
    · simp only [Rm, d 0 (by omega)]; exact r1
    · simp only [Rp, d 1 (by omega), d 2 (by omega)]; exact r2
    · simp only [Rc, h1, h2]; exact r3
    · simp only [Rw, h3]; exact r4
    · simp only [Rb, d 11 (by omega), d 12 (by omega), d 13 (by omega), d 14 (by omega), d 15 (by omega)]; exact r5
    · rw [d (16 + w) (by omega)]; exact (r6 r hr).1 w hw
    · rw [d 16 (by omega)] at q2
      rw [d 22 (by omega)]; exact (r6 r hr).2 q1 q2
    · simp only [Rg, d 7 (by omega), d 8 (by omega), d 9 (by omega)]; exact r7
    · intro _ i w hi hw
      rw [d 0 (by omega)] at hi
      rw [d 27 (by omega)]
      exact r9 rfl i w hi hw
    · simp only [Rv, d 0 (by omega), d 24 (by omega), d 25 (by omega), d 26 (by omega)]; exact r10
  have hMI : MI t D2 := by
    simp only [MI, WI, VI, JI, SI, CG, BI, RI, DI, KI, CI, d 0 (by omega), d 11 (by omega), d 12 (by omega), d 16 (by omega), d 17 (by omega), d 23 (by omega), d 24 (by omega), d 25 (by omega), d 26 (by omega)]
    exact hM
  exact ⟨⟨⟨TR_t hTR (fun k j q => ht _ _ _ _ q.2.1), hF, RD_t hRD hs (fun _ _ _ _ _ => rfl)⟩, MI_t hMI hs, fun p hp => by rw [hD 2 p (by omega)]; exact hO p (by omega), OF_w hOF (fun _ => rfl) (fun k => ht _ _ _ _ (by decide)) (congrArg nN (ht _ _ _ _ (by decide))), fun p y hp hy => by rw [hD 10 _ (by omega)]; exact hZ p y hp hy, fun p y hp hy => by rw [hD 10 _ (by omega)]; exact hN p y hp hy⟩, TH_w hH (fun _ => rfl) (fun k => ht _ _ _ _ (by decide)) (fun k => ht _ _ _ _ (by decide)) (congrArg nN (ht _ _ _ _ (by decide))), hz⟩
theorem cv_stepc {t : Sg} {D : Dy} {Z : Zt} {σ : Sg} (hK : CK t D Z σ) (hI : TI t) {x : Int32} : ∃ σ', Ev false 227 [.inr (.inr (0, false, 0)), .inl x] σ (some (.inl (stpR D x))) σ' ∧ ∃ Z', CK t (stpD t D x) Z' σ' := by
  obtain ⟨σ', ev, Z', h1, h2⟩ := cv_step hK.1 hI hK.2.1 (x := x)
  exact ⟨σ', ev, Z', CK_of h1 hK.2.1 (h2.trans hK.2.2.1) hK.2.2.2⟩
theorem wi_TI {t : Sg} {D : Dy} {k : Nat} (h : TI t) : TI (wiT t D k) := TI_of h (fun k j q => wiT_o (by omega) (by omega))
theorem wi_HM {t : Sg} {D : Dy} {k : Nat} (h : HM t) : HM (wiT t D k) := HM_of h (fun k j q => wiT_o (by omega) (by omega))
theorem wi_HA {t : Sg} {D : Dy} {k : Nat} (h : HA t D) : HA (wiT t D k) D := HA_of h (fun k j q => wiT_o (by omega) (by omega)) (by rw [wiT_nP]; exact Nat.le_refl _) (by rw [show nB (wiT t D k) = nB t from congrArg nN (wiT_o (by decide) (by omega))]; exact Nat.le_refl _) (Nat.le_refl _)
theorem pub_post {σ τ : Sg} (hI : INV σ τ) {x y n : Int32}  : ∃ r : Int32, ∃ σ' τ', Ev false 91 [.inr (.inr (0, false, 0)), .inl x, .inl y, .inl n] σ (some (.inl r)) σ' ∧ Ev true 110 [.inr (.inr (69, false, 0)), .inl x, .inl y, .inl n] τ (some (.inl r)) τ' ∧ INV σ' τ' := by
  obtain ⟨t, D, Z, hA, hK, hV⟩ := hI
  have hT := hV.1.1
  have hWT := hV.1.2.1
  have hRT := hV.1.2.2.1
  have hX := hV.1.2.2.2.1
  have hX2 := hV.2.1
  have hM := hV.2.2.1.1
  have hR := hV.2.2.1.2
  have hB8 := hV.2.2.2.1
  have hHA := hV.2.2.2.2.1
  have hH := hHA.1.1
  have hND := hV.2.2.2.2.2.1.1
  have hSI := hV.2.2.2.2.2.1.2.1
  have hTE := hV.2.2.2.2.2.1.2.2.1
  have hRW := hV.2.2.2.2.2.1.2.2.2
  have hB0 := hV.2.2.2.2.2.2.1
  have hS3 := hV.2.2.2.2.2.2.2
  have hMI := hK.1.2.1
  have h0 := hMI.2.2
  have h7 := hMI.1.1.2.1
  obtain ⟨σ', e1, k1⟩ := cv_post hK hT hH (fun r hr => (hRT r hr).2.1) hB0 (x := x) (y := y) (n := n)
  obtain ⟨τ', e2, k2⟩ := mp_post hA hT (x := x) (y := y) (n := n)
  exact ⟨_, σ', τ', e1, e2, _, _, Z, k2, k1, kv_post hV (x := x) (y := y) (n := n)⟩
theorem pub_bike {σ τ : Sg} (hI : INV σ τ) {x : Int32}  : ∃ r : Int32, ∃ σ' τ', Ev false 142 [.inr (.inr (0, false, 0)), .inl x] σ (some (.inl r)) σ' ∧ Ev true 149 [.inr (.inr (69, false, 0)), .inl x] τ (some (.inl r)) τ' ∧ INV σ' τ' := by
  obtain ⟨t, D, Z, hA, hK, hV⟩ := hI
  have hT := hV.1.1
  have hWT := hV.1.2.1
  have hRT := hV.1.2.2.1
  have hX := hV.1.2.2.2.1
  have hX2 := hV.2.1
  have hM := hV.2.2.1.1
  have hR := hV.2.2.1.2
  have hB8 := hV.2.2.2.1
  have hHA := hV.2.2.2.2.1
  have hH := hHA.1.1
  have hND := hV.2.2.2.2.2.1.1
  have hSI := hV.2.2.2.2.2.1.2.1
  have hTE := hV.2.2.2.2.2.1.2.2.1
  have hRW := hV.2.2.2.2.2.1.2.2.2
  have hB0 := hV.2.2.2.2.2.2.1
  have hS3 := hV.2.2.2.2.2.2.2
  have hMI := hK.1.2.1
  have h0 := hMI.2.2
  have h7 := hMI.1.1.2.1
  obtain ⟨σ', e1, k1⟩ := cv_bike hK hT hH hR hB0 (x := x)
  obtain ⟨τ', e2, k2⟩ := mp_bike hA hT (x := x)
  exact ⟨_, σ', τ', e1, e2, _, _, Z, k2, k1, kv_bike hV h0 (x := x)⟩
theorem pub_kind {σ τ : Sg} (hI : INV σ τ) {k l p : Int32}  : ∃ r : Int32, ∃ σ' τ', Ev false 92 [.inr (.inr (0, false, 0)), .inl k, .inl l, .inl p] σ (some (.inl r)) σ' ∧ Ev true 112 [.inr (.inr (69, false, 0)), .inl k, .inl l, .inl p] τ (some (.inl r)) τ' ∧ INV σ' τ' := by
  obtain ⟨t, D, Z, hA, hK, hV⟩ := hI
  have hT := hV.1.1
  have hWT := hV.1.2.1
  have hRT := hV.1.2.2.1
  have hX := hV.1.2.2.2.1
  have hX2 := hV.2.1
  have hM := hV.2.2.1.1
  have hR := hV.2.2.1.2
  have hB8 := hV.2.2.2.1
  have hHA := hV.2.2.2.2.1
  have hH := hHA.1.1
  have hND := hV.2.2.2.2.2.1.1
  have hSI := hV.2.2.2.2.2.1.2.1
  have hTE := hV.2.2.2.2.2.1.2.2.1
  have hRW := hV.2.2.2.2.2.1.2.2.2
  have hB0 := hV.2.2.2.2.2.2.1
  have hS3 := hV.2.2.2.2.2.2.2
  have hMI := hK.1.2.1
  have h0 := hMI.2.2
  have h7 := hMI.1.1.2.1
  obtain ⟨σ', e1, k1⟩ := cv_kind hK hT (k := k) (l := l) (p := p)
  obtain ⟨τ', e2, k2⟩ := mp_kind hA hT (k := k) (l := l) (p := p)
  exact ⟨_, σ', τ', e1, e2, _, _, Z, k2, k1, kv_kind hV (k := k) (l := l) (p := p)⟩
theorem pub_rider {σ τ : Sg} (hI : INV σ τ) {m p q k : Int32}  : ∃ r : Int32, ∃ σ' τ', Ev false 93 [.inr (.inr (0, false, 0)), .inl m, .inl p, .inl q, .inl k] σ (some (.inl r)) σ' ∧ Ev true 150 [.inr (.inr (69, false, 0)), .inl m, .inl p, .inl q, .inl k] τ (some (.inl r)) τ' ∧ INV σ' τ' := by
  obtain ⟨t, D, Z, hA, hK, hV⟩ := hI
  have hT := hV.1.1
  have hWT := hV.1.2.1
  have hRT := hV.1.2.2.1
  have hX := hV.1.2.2.2.1
  have hX2 := hV.2.1
  have hM := hV.2.2.1.1
  have hR := hV.2.2.1.2
  have hB8 := hV.2.2.2.1
  have hHA := hV.2.2.2.2.1
  have hH := hHA.1.1
  have hND := hV.2.2.2.2.2.1.1
  have hSI := hV.2.2.2.2.2.1.2.1
  have hTE := hV.2.2.2.2.2.1.2.2.1
  have hRW := hV.2.2.2.2.2.1.2.2.2
  have hB0 := hV.2.2.2.2.2.2.1
  have hS3 := hV.2.2.2.2.2.2.2
  have hMI := hK.1.2.1
  have h0 := hMI.2.2
  have h7 := hMI.1.1.2.1
  obtain ⟨σ', e1, k1⟩ := cv_rider hK hT (m := m) (p := p) (q := q) (k := k)
  obtain ⟨τ', e2, k2⟩ := mp_rider hA hT (m := m) (p := p) (q := q) (k := k)
  exact ⟨_, σ', τ', e1, e2, _, _, Z, k2, k1, kv_rider hV (m := m) (p := p) (q := q) (k := k)⟩
theorem pub_shop {σ τ : Sg} (hI : INV σ τ) {m n : Int32}  : ∃ r : Int32, ∃ σ' τ', Ev false 94 [.inr (.inr (0, false, 0)), .inl m, .inl n] σ (some (.inl r)) σ' ∧ Ev true 113 [.inr (.inr (69, false, 0)), .inl m, .inl n] τ (some (.inl r)) τ' ∧ INV σ' τ' := by
  obtain ⟨t, D, Z, hA, hK, hV⟩ := hI
  have hT := hV.1.1
  have hWT := hV.1.2.1
  have hRT := hV.1.2.2.1
  have hX := hV.1.2.2.2.1
  have hX2 := hV.2.1
  have hM := hV.2.2.1.1
  have hR := hV.2.2.1.2
  have hB8 := hV.2.2.2.1
  have hHA := hV.2.2.2.2.1
  have hH := hHA.1.1
  have hND := hV.2.2.2.2.2.1.1
  have hSI := hV.2.2.2.2.2.1.2.1
  have hTE := hV.2.2.2.2.2.1.2.2.1
  have hRW := hV.2.2.2.2.2.1.2.2.2
  have hB0 := hV.2.2.2.2.2.2.1
  have hS3 := hV.2.2.2.2.2.2.2
  have hMI := hK.1.2.1
  have h0 := hMI.2.2
  have h7 := hMI.1.1.2.1
  obtain ⟨σ', e1, k1⟩ := cv_shop_p hK hT (m := m) (n := n)
  obtain ⟨τ', e2, k2⟩ := mp_shop hA hT (m := m) (n := n)
  exact ⟨_, σ', τ', e1, e2, _, _, Z, k2, k1, kv_shop hV (m := m) (n := n)⟩
theorem pub_price {σ τ : Sg} (hI : INV σ τ) {x v : Int32}  : ∃ r : Int32, ∃ σ' τ', Ev false 202 [.inr (.inr (0, false, 0)), .inl x, .inl v] σ (some (.inl r)) σ' ∧ Ev true 211 [.inr (.inr (69, false, 0)), .inl x, .inl v] τ (some (.inl r)) τ' ∧ INV σ' τ' := by
  obtain ⟨t, D, Z, hA, hK, hV⟩ := hI
  have hT := hV.1.1
  have hWT := hV.1.2.1
  have hRT := hV.1.2.2.1
  have hX := hV.1.2.2.2.1
  have hX2 := hV.2.1
  have hM := hV.2.2.1.1
  have hR := hV.2.2.1.2
  have hB8 := hV.2.2.2.1
  have hHA := hV.2.2.2.2.1
  have hH := hHA.1.1
  have hND := hV.2.2.2.2.2.1.1
  have hSI := hV.2.2.2.2.2.1.2.1
  have hTE := hV.2.2.2.2.2.1.2.2.1
  have hRW := hV.2.2.2.2.2.1.2.2.2
  have hB0 := hV.2.2.2.2.2.2.1
  have hS3 := hV.2.2.2.2.2.2.2
  have hMI := hK.1.2.1
  have h0 := hMI.2.2
  have h7 := hMI.1.1.2.1
  obtain ⟨σ', e1, k1⟩ := cv_price_p hK hT hH (x := x) (v := v)
  obtain ⟨τ', e2, k2⟩ := mp_price hA hT hMI.1 hH (x := x) (v := v)
  exact ⟨_, σ', τ', e1, e2, _, _, Z, k2, k1, kv_price hV h0 (x := x) (v := v)⟩
theorem pub_open {σ τ : Sg} (hI : INV σ τ) {x v : Int32} (hv : v = nI 0 ∨ v = nI 1) : ∃ r : Int32, ∃ σ' τ', Ev false 203 [.inr (.inr (0, false, 0)), .inl x, .inl v] σ (some (.inl r)) σ' ∧ Ev true 212 [.inr (.inr (69, false, 0)), .inl x, .inl v] τ (some (.inl r)) τ' ∧ INV σ' τ' := by
  obtain ⟨t, D, Z, hA, hK, hV⟩ := hI
  have hT := hV.1.1
  have hWT := hV.1.2.1
  have hRT := hV.1.2.2.1
  have hX := hV.1.2.2.2.1
  have hX2 := hV.2.1
  have hM := hV.2.2.1.1
  have hR := hV.2.2.1.2
  have hB8 := hV.2.2.2.1
  have hHA := hV.2.2.2.2.1
  have hH := hHA.1.1
  have hND := hV.2.2.2.2.2.1.1
  have hSI := hV.2.2.2.2.2.1.2.1
  have hTE := hV.2.2.2.2.2.1.2.2.1
  have hRW := hV.2.2.2.2.2.1.2.2.2
  have hB0 := hV.2.2.2.2.2.2.1
  have hS3 := hV.2.2.2.2.2.2.2
  have hMI := hK.1.2.1
  have h0 := hMI.2.2
  have h7 := hMI.1.1.2.1
  obtain ⟨σ', e1, k1⟩ := cv_open_p hK hT hH hv (x := x)
  obtain ⟨τ', e2, k2⟩ := mp_open hA hT hMI.1 hH hv (x := x)
  exact ⟨_, σ', τ', e1, e2, _, _, Z, k2, k1, kv_open hV h0 hv (x := x)⟩
theorem pub_faulty {σ τ : Sg} (hI : INV σ τ) {x : Int32}  : ∃ r : Int32, ∃ σ' τ', Ev false 204 [.inr (.inr (0, false, 0)), .inl x] σ (some (.inl r)) σ' ∧ Ev true 213 [.inr (.inr (69, false, 0)), .inl x] τ (some (.inl r)) τ' ∧ INV σ' τ' := by
  obtain ⟨t, D, Z, hA, hK, hV⟩ := hI
  have hT := hV.1.1
  have hWT := hV.1.2.1
  have hRT := hV.1.2.2.1
  have hX := hV.1.2.2.2.1
  have hX2 := hV.2.1
  have hM := hV.2.2.1.1
  have hR := hV.2.2.1.2
  have hB8 := hV.2.2.2.1
  have hHA := hV.2.2.2.2.1
  have hH := hHA.1.1
  have hND := hV.2.2.2.2.2.1.1
  have hSI := hV.2.2.2.2.2.1.2.1
  have hTE := hV.2.2.2.2.2.1.2.2.1
  have hRW := hV.2.2.2.2.2.1.2.2.2
  have hB0 := hV.2.2.2.2.2.2.1
  have hS3 := hV.2.2.2.2.2.2.2
  have hMI := hK.1.2.1
  have h0 := hMI.2.2
  have h7 := hMI.1.1.2.1
  obtain ⟨σ', e1, k1⟩ := cv_faulty hK hT hH (x := x)
  obtain ⟨τ', e2, k2⟩ := mp_faulty hA hT hMI.1 hH (x := x)
  exact ⟨_, σ', τ', e1, e2, _, _, Z, k2, k1, kv_faulty hV h0 (x := x)⟩
theorem pub_steal {σ τ : Sg} (hI : INV σ τ) {x : Int32}  : ∃ r : Int32, ∃ σ' τ', Ev false 205 [.inr (.inr (0, false, 0)), .inl x] σ (some (.inl r)) σ' ∧ Ev true 214 [.inr (.inr (69, false, 0)), .inl x] τ (some (.inl r)) τ' ∧ INV σ' τ' := by
  obtain ⟨t, D, Z, hA, hK, hV⟩ := hI
  have hT := hV.1.1
  have hWT := hV.1.2.1
  have hRT := hV.1.2.2.1
  have hX := hV.1.2.2.2.1
  have hX2 := hV.2.1
  have hM := hV.2.2.1.1
  have hR := hV.2.2.1.2
  have hB8 := hV.2.2.2.1
  have hHA := hV.2.2.2.2.1
  have hH := hHA.1.1
  have hND := hV.2.2.2.2.2.1.1
  have hSI := hV.2.2.2.2.2.1.2.1
  have hTE := hV.2.2.2.2.2.1.2.2.1
  have hRW := hV.2.2.2.2.2.1.2.2.2
  have hB0 := hV.2.2.2.2.2.2.1
  have hS3 := hV.2.2.2.2.2.2.2
  have hMI := hK.1.2.1
  have h0 := hMI.2.2
  have h7 := hMI.1.1.2.1
  obtain ⟨σ', e1, k1⟩ := cv_steal hK hT hH (x := x)
  obtain ⟨τ', e2, k2⟩ := mp_steal hA hT hMI.1 hH (x := x)
  exact ⟨_, σ', τ', e1, e2, _, _, Z, k2, k1, kv_steal hV h0 (x := x)⟩
theorem pub_find {σ τ : Sg} (hI : INV σ τ) {x v : Int32}  : ∃ r : Int32, ∃ σ' τ', Ev false 206 [.inr (.inr (0, false, 0)), .inl x, .inl v] σ (some (.inl r)) σ' ∧ Ev true 215 [.inr (.inr (69, false, 0)), .inl x, .inl v] τ (some (.inl r)) τ' ∧ INV σ' τ' := by
  obtain ⟨t, D, Z, hA, hK, hV⟩ := hI
  have hT := hV.1.1
  have hWT := hV.1.2.1
  have hRT := hV.1.2.2.1
  have hX := hV.1.2.2.2.1
  have hX2 := hV.2.1
  have hM := hV.2.2.1.1
  have hR := hV.2.2.1.2
  have hB8 := hV.2.2.2.1
  have hHA := hV.2.2.2.2.1
  have hH := hHA.1.1
  have hND := hV.2.2.2.2.2.1.1
  have hSI := hV.2.2.2.2.2.1.2.1
  have hTE := hV.2.2.2.2.2.1.2.2.1
  have hRW := hV.2.2.2.2.2.1.2.2.2
  have hB0 := hV.2.2.2.2.2.2.1
  have hS3 := hV.2.2.2.2.2.2.2
  have hMI := hK.1.2.1
  have h0 := hMI.2.2
  have h7 := hMI.1.1.2.1
  obtain ⟨σ', e1, k1⟩ := cv_find hK hT hH (x := x) (v := v)
  obtain ⟨τ', e2, k2⟩ := mp_find hA hT hMI.1 hH (x := x) (v := v)
  exact ⟨_, σ', τ', e1, e2, _, _, Z, k2, k1, kv_find hV h0 (x := x) (v := v)⟩
theorem pub_stop {σ τ : Sg} (hI : INV σ τ) {x v : Int32}  : ∃ r : Int32, ∃ σ' τ', Ev false 207 [.inr (.inr (0, false, 0)), .inl x, .inl v] σ (some (.inl r)) σ' ∧ Ev true 216 [.inr (.inr (69, false, 0)), .inl x, .inl v] τ (some (.inl r)) τ' ∧ INV σ' τ' := by
  obtain ⟨t, D, Z, hA, hK, hV⟩ := hI
  have hT := hV.1.1
  have hWT := hV.1.2.1
  have hRT := hV.1.2.2.1
  have hX := hV.1.2.2.2.1
  have hX2 := hV.2.1
  have hM := hV.2.2.1.1
  have hR := hV.2.2.1.2
  have hB8 := hV.2.2.2.1
  have hHA := hV.2.2.2.2.1
  have hH := hHA.1.1
  have hND := hV.2.2.2.2.2.1.1
  have hSI := hV.2.2.2.2.2.1.2.1
  have hTE := hV.2.2.2.2.2.1.2.2.1
  have hRW := hV.2.2.2.2.2.1.2.2.2
  have hB0 := hV.2.2.2.2.2.2.1
  have hS3 := hV.2.2.2.2.2.2.2
  have hMI := hK.1.2.1
  have h0 := hMI.2.2
  have h7 := hMI.1.1.2.1
  obtain ⟨σ', e1, k1⟩ := cv_stop_p hK hT hH (x := x) (v := v)
  obtain ⟨τ', e2, k2⟩ := mp_stop hA hT hMI.1 hH (x := x) (v := v)
  exact ⟨_, σ', τ', e1, e2, _, _, Z, k2, k1, kv_stop hV h0 (x := x) (v := v)⟩
theorem pub_say {σ τ : Sg} (hI : INV σ τ) {x : Int32}  : ∃ r : Int32, ∃ σ' τ', Ev false 95 [.inr (.inr (0, false, 0)), .inl x] σ (some (.inl r)) σ' ∧ Ev true 115 [.inr (.inr (69, false, 0)), .inl x] τ (some (.inl r)) τ' ∧ INV σ' τ' := by
  obtain ⟨t, D, Z, hA, hK, hV⟩ := hI
  have hT := hV.1.1
  have hWT := hV.1.2.1
  have hRT := hV.1.2.2.1
  have hX := hV.1.2.2.2.1
  have hX2 := hV.2.1
  have hM := hV.2.2.1.1
  have hR := hV.2.2.1.2
  have hB8 := hV.2.2.2.1
  have hHA := hV.2.2.2.2.1
  have hH := hHA.1.1
  have hND := hV.2.2.2.2.2.1.1
  have hSI := hV.2.2.2.2.2.1.2.1
  have hTE := hV.2.2.2.2.2.1.2.2.1
  have hRW := hV.2.2.2.2.2.1.2.2.2
  have hB0 := hV.2.2.2.2.2.2.1
  have hS3 := hV.2.2.2.2.2.2.2
  have hMI := hK.1.2.1
  have h0 := hMI.2.2
  have h7 := hMI.1.1.2.1
  obtain ⟨σ', e1, k1⟩ := cv_say hK hT hX2 (x := x)
  obtain ⟨τ', e2, k2⟩ := mp_say hA hT hX2 (x := x)
  exact ⟨_, σ', τ', e1, e2, _, _, Z, k2, k1, kv_say hV (x := x)⟩
theorem pub_hush {σ τ : Sg} (hI : INV σ τ)  : ∃ r : Int32, ∃ σ' τ', Ev false 41 [.inr (.inr (0, false, 0))] σ (some (.inl r)) σ' ∧ Ev true 51 [.inr (.inr (69, false, 0))] τ (some (.inl r)) τ' ∧ INV σ' τ' := by
  obtain ⟨t, D, Z, hA, hK, hV⟩ := hI
  have hT := hV.1.1
  have hWT := hV.1.2.1
  have hRT := hV.1.2.2.1
  have hX := hV.1.2.2.2.1
  have hX2 := hV.2.1
  have hM := hV.2.2.1.1
  have hR := hV.2.2.1.2
  have hB8 := hV.2.2.2.1
  have hHA := hV.2.2.2.2.1
  have hH := hHA.1.1
  have hND := hV.2.2.2.2.2.1.1
  have hSI := hV.2.2.2.2.2.1.2.1
  have hTE := hV.2.2.2.2.2.1.2.2.1
  have hRW := hV.2.2.2.2.2.1.2.2.2
  have hB0 := hV.2.2.2.2.2.2.1
  have hS3 := hV.2.2.2.2.2.2.2
  have hMI := hK.1.2.1
  have h0 := hMI.2.2
  have h7 := hMI.1.1.2.1
  obtain ⟨σ', e1, k1⟩ := cv_hush hK hT hX2
  obtain ⟨τ', e2, k2⟩ := mp_hush hA hT hX2
  exact ⟨_, σ', τ', e1, e2, _, _, Z, k2, k1, kv_hush hV⟩
theorem pub_fault {σ τ : Sg} (hI : INV σ τ)  : ∃ r : Int32, ∃ σ' τ', Ev false 186 [.inr (.inr (0, false, 0))] σ (some (.inl r)) σ' ∧ Ev true 153 [.inr (.inr (69, false, 0))] τ (some (.inl r)) τ' ∧ INV σ' τ' := by
  obtain ⟨t, D, Z, hA, hK, hV⟩ := hI
  have hT := hV.1.1
  have hWT := hV.1.2.1
  have hRT := hV.1.2.2.1
  have hX := hV.1.2.2.2.1
  have hX2 := hV.2.1
  have hM := hV.2.2.1.1
  have hR := hV.2.2.1.2
  have hB8 := hV.2.2.2.1
  have hHA := hV.2.2.2.2.1
  have hH := hHA.1.1
  have hND := hV.2.2.2.2.2.1.1
  have hSI := hV.2.2.2.2.2.1.2.1
  have hTE := hV.2.2.2.2.2.1.2.2.1
  have hRW := hV.2.2.2.2.2.1.2.2.2
  have hB0 := hV.2.2.2.2.2.2.1
  have hS3 := hV.2.2.2.2.2.2.2
  have hMI := hK.1.2.1
  have h0 := hMI.2.2
  have h7 := hMI.1.1.2.1
  obtain ⟨σ', e1, k1⟩ := cv_faultp hK hT hX2
  obtain ⟨τ', e2, k2⟩ := mp_fault hA hT hX2
  exact ⟨_, σ', τ', e1, e2, _, _, Z, k2, k1, hV⟩
theorem pub_rule {σ τ : Sg} (hI : INV σ τ)  : ∃ r : Int32, ∃ σ' τ', Ev false 187 [.inr (.inr (0, false, 0))] σ (some (.inl r)) σ' ∧ Ev true 154 [.inr (.inr (69, false, 0))] τ (some (.inl r)) τ' ∧ INV σ' τ' := by
  obtain ⟨t, D, Z, hA, hK, hV⟩ := hI
  have hT := hV.1.1
  have hWT := hV.1.2.1
  have hRT := hV.1.2.2.1
  have hX := hV.1.2.2.2.1
  have hX2 := hV.2.1
  have hM := hV.2.2.1.1
  have hR := hV.2.2.1.2
  have hB8 := hV.2.2.2.1
  have hHA := hV.2.2.2.2.1
  have hH := hHA.1.1
  have hND := hV.2.2.2.2.2.1.1
  have hSI := hV.2.2.2.2.2.1.2.1
  have hTE := hV.2.2.2.2.2.1.2.2.1
  have hRW := hV.2.2.2.2.2.1.2.2.2
  have hB0 := hV.2.2.2.2.2.2.1
  have hS3 := hV.2.2.2.2.2.2.2
  have hMI := hK.1.2.1
  have h0 := hMI.2.2
  have h7 := hMI.1.1.2.1
  obtain ⟨σ', e1, k1⟩ := cv_rulep hK hT hX hX2
  obtain ⟨τ', e2, k2⟩ := mp_rule hA hT hX hX2
  exact ⟨_, σ', τ', e1, e2, _, _, Z, k2, k1, kv_rule hV⟩
theorem pub_off {σ τ : Sg} (hI : INV σ τ) {x v : Int32} (hv : v = nI 0 ∨ v = nI 1) : ∃ r : Int32, ∃ σ' τ', Ev false 96 [.inr (.inr (0, false, 0)), .inl x, .inl v] σ (some (.inl r)) σ' ∧ Ev true 117 [.inr (.inr (69, false, 0)), .inl x, .inl v] τ (some (.inl r)) τ' ∧ INV σ' τ' := by
  obtain ⟨t, D, Z, hA, hK, hV⟩ := hI
  have hT := hV.1.1
  have hWT := hV.1.2.1
  have hRT := hV.1.2.2.1
  have hX := hV.1.2.2.2.1
  have hX2 := hV.2.1
  have hM := hV.2.2.1.1
  have hR := hV.2.2.1.2
  have hB8 := hV.2.2.2.1
  have hHA := hV.2.2.2.2.1
  have hH := hHA.1.1
  have hND := hV.2.2.2.2.2.1.1
  have hSI := hV.2.2.2.2.2.1.2.1
  have hTE := hV.2.2.2.2.2.1.2.2.1
  have hRW := hV.2.2.2.2.2.1.2.2.2
  have hB0 := hV.2.2.2.2.2.2.1
  have hS3 := hV.2.2.2.2.2.2.2
  have hMI := hK.1.2.1
  have h0 := hMI.2.2
  have h7 := hMI.1.1.2.1
  obtain ⟨σ', e1, k1⟩ := cv_off hK hT hX hB8 hv (x := x)
  obtain ⟨τ', e2, k2⟩ := mp_off hA hT hX hv (k := x)
  exact ⟨_, σ', τ', e1, e2, _, _, Z, k2, k1, kv_off hV hv (x := x)⟩
theorem pub_step {σ τ : Sg} (hI : INV σ τ) {x : Int32}  : ∃ r : Int32, ∃ σ' τ', Ev false 227 [.inr (.inr (0, false, 0)), .inl x] σ (some (.inl r)) σ' ∧ Ev true 225 [.inr (.inr (69, false, 0)), .inl x] τ (some (.inl r)) τ' ∧ INV σ' τ' := by
  obtain ⟨t, D, Z, hA, hK, hV⟩ := hI
  have hT := hV.1.1
  have hWT := hV.1.2.1
  have hRT := hV.1.2.2.1
  have hX := hV.1.2.2.2.1
  have hX2 := hV.2.1
  have hM := hV.2.2.1.1
  have hR := hV.2.2.1.2
  have hB8 := hV.2.2.2.1
  have hHA := hV.2.2.2.2.1
  have hH := hHA.1.1
  have hND := hV.2.2.2.2.2.1.1
  have hSI := hV.2.2.2.2.2.1.2.1
  have hTE := hV.2.2.2.2.2.1.2.2.1
  have hRW := hV.2.2.2.2.2.1.2.2.2
  have hB0 := hV.2.2.2.2.2.2.1
  have hS3 := hV.2.2.2.2.2.2.2
  have hMI := hK.1.2.1
  have h0 := hMI.2.2
  have h7 := hMI.1.1.2.1
  obtain ⟨σ', e1, Z', k1⟩ := cv_stepc hK hV.1 (x := x)
  obtain ⟨τ', e2, k2⟩ := mp_step hA hT hV.1 hMI (x := x)
  exact ⟨_, σ', τ', e1, e2, _, _, Z', k2, k1, kv_step hV hMI (x := x)⟩
theorem pub_endDay {σ τ : Sg} (hI : INV σ τ) {x : Int32}  : ∃ r : Int32, ∃ σ' τ', Ev false 208 [.inr (.inr (0, false, 0)), .inl x] σ (some (.inl r)) σ' ∧ Ev true 159 [.inr (.inr (69, false, 0)), .inl x] τ (some (.inl r)) τ' ∧ INV σ' τ' := by
  obtain ⟨t, D, Z, hA, hK, hV⟩ := hI
  have hT := hV.1.1
  have hWT := hV.1.2.1
  have hRT := hV.1.2.2.1
  have hX := hV.1.2.2.2.1
  have hX2 := hV.2.1
  have hM := hV.2.2.1.1
  have hR := hV.2.2.1.2
  have hB8 := hV.2.2.2.1
  have hHA := hV.2.2.2.2.1
  have hH := hHA.1.1
  have hND := hV.2.2.2.2.2.1.1
  have hSI := hV.2.2.2.2.2.1.2.1
  have hTE := hV.2.2.2.2.2.1.2.2.1
  have hRW := hV.2.2.2.2.2.1.2.2.2
  have hB0 := hV.2.2.2.2.2.2.1
  have hS3 := hV.2.2.2.2.2.2.2
  have hMI := hK.1.2.1
  have h0 := hMI.2.2
  have h7 := hMI.1.1.2.1
  obtain ⟨σ', e1, Z', k1⟩ := cv_endDay hK hT hM (hN := hND) (x := x)
  obtain ⟨τ', e2, k2⟩ := mp_endDay hA hT hND h0 (x := x)
  exact ⟨_, σ', τ', e1, e2, _, _, Z', k2, k1, kv_endDay hV (x := x)⟩
theorem pub_bikeAt {σ τ : Sg} (hI : INV σ τ) {x w : Int32}  : ∃ r : Int32, ∃ σ' τ', Ev false 97 [.inr (.inr (0, false, 0)), .inl x, .inl w] σ (some (.inl r)) σ' ∧ Ev true 160 [.inr (.inr (69, false, 0)), .inl x, .inl w] τ (some (.inl r)) τ' ∧ INV σ' τ' := by
  obtain ⟨t, D, Z, hA, hK, hV⟩ := hI
  have hT := hV.1.1
  have hWT := hV.1.2.1
  have hRT := hV.1.2.2.1
  have hX := hV.1.2.2.2.1
  have hX2 := hV.2.1
  have hM := hV.2.2.1.1
  have hR := hV.2.2.1.2
  have hB8 := hV.2.2.2.1
  have hHA := hV.2.2.2.2.1
  have hH := hHA.1.1
  have hND := hV.2.2.2.2.2.1.1
  have hSI := hV.2.2.2.2.2.1.2.1
  have hTE := hV.2.2.2.2.2.1.2.2.1
  have hRW := hV.2.2.2.2.2.1.2.2.2
  have hB0 := hV.2.2.2.2.2.2.1
  have hS3 := hV.2.2.2.2.2.2.2
  have hMI := hK.1.2.1
  have h0 := hMI.2.2
  have h7 := hMI.1.1.2.1
  obtain ⟨τ', e2, k2⟩ := mp_bikeAt hA hT (x := x) (w := w)
  exact ⟨_, σ, τ', cv_bikeAt hK hT (x := x) (w := w), e2, t, D, Z, k2, hK, hV⟩
theorem pub_postAt {σ τ : Sg} (hI : INV σ τ) {x w : Int32}  : ∃ r : Int32, ∃ σ' τ', Ev false 143 [.inr (.inr (0, false, 0)), .inl x, .inl w] σ (some (.inl r)) σ' ∧ Ev true 161 [.inr (.inr (69, false, 0)), .inl x, .inl w] τ (some (.inl r)) τ' ∧ INV σ' τ' := by
  obtain ⟨t, D, Z, hA, hK, hV⟩ := hI
  have hT := hV.1.1
  have hWT := hV.1.2.1
  have hRT := hV.1.2.2.1
  have hX := hV.1.2.2.2.1
  have hX2 := hV.2.1
  have hM := hV.2.2.1.1
  have hR := hV.2.2.1.2
  have hB8 := hV.2.2.2.1
  have hHA := hV.2.2.2.2.1
  have hH := hHA.1.1
  have hND := hV.2.2.2.2.2.1.1
  have hSI := hV.2.2.2.2.2.1.2.1
  have hTE := hV.2.2.2.2.2.1.2.2.1
  have hRW := hV.2.2.2.2.2.1.2.2.2
  have hB0 := hV.2.2.2.2.2.2.1
  have hS3 := hV.2.2.2.2.2.2.2
  have hMI := hK.1.2.1
  have h0 := hMI.2.2
  have h7 := hMI.1.1.2.1
  obtain ⟨τ', e2, k2⟩ := mp_postAt hA hT (x := x) (w := w)
  exact ⟨_, σ, τ', cv_postAt hK hT hS3 (x := x) (w := w), e2, t, D, Z, k2, hK, hV⟩
theorem pub_riderAt {σ τ : Sg} (hI : INV σ τ) {x w : Int32}  : ∃ r : Int32, ∃ σ' τ', Ev false 98 [.inr (.inr (0, false, 0)), .inl x, .inl w] σ (some (.inl r)) σ' ∧ Ev true 120 [.inr (.inr (69, false, 0)), .inl x, .inl w] τ (some (.inl r)) τ' ∧ INV σ' τ' := by
  obtain ⟨t, D, Z, hA, hK, hV⟩ := hI
  have hT := hV.1.1
  have hWT := hV.1.2.1
  have hRT := hV.1.2.2.1
  have hX := hV.1.2.2.2.1
  have hX2 := hV.2.1
  have hM := hV.2.2.1.1
  have hR := hV.2.2.1.2
  have hB8 := hV.2.2.2.1
  have hHA := hV.2.2.2.2.1
  have hH := hHA.1.1
  have hND := hV.2.2.2.2.2.1.1
  have hSI := hV.2.2.2.2.2.1.2.1
  have hTE := hV.2.2.2.2.2.1.2.2.1
  have hRW := hV.2.2.2.2.2.1.2.2.2
  have hB0 := hV.2.2.2.2.2.2.1
  have hS3 := hV.2.2.2.2.2.2.2
  have hMI := hK.1.2.1
  have h0 := hMI.2.2
  have h7 := hMI.1.1.2.1
  obtain ⟨τ', e2, k2⟩ := mp_riderAt hA hT (x := x) (w := w)
  exact ⟨_, σ, τ', cv_riderAt hK hT (x := x) (w := w), e2, t, D, Z, k2, hK, hV⟩
theorem pub_van {σ τ : Sg} (hI : INV σ τ) {w : Int32}  : ∃ r : Int32, ∃ σ' τ', Ev false 42 [.inr (.inr (0, false, 0)), .inl w] σ (some (.inl r)) σ' ∧ Ev true 58 [.inr (.inr (69, false, 0)), .inl w] τ (some (.inl r)) τ' ∧ INV σ' τ' := by
  obtain ⟨t, D, Z, hA, hK, hV⟩ := hI
  have hT := hV.1.1
  have hWT := hV.1.2.1
  have hRT := hV.1.2.2.1
  have hX := hV.1.2.2.2.1
  have hX2 := hV.2.1
  have hM := hV.2.2.1.1
  have hR := hV.2.2.1.2
  have hB8 := hV.2.2.2.1
  have hHA := hV.2.2.2.2.1
  have hH := hHA.1.1
  have hND := hV.2.2.2.2.2.1.1
  have hSI := hV.2.2.2.2.2.1.2.1
  have hTE := hV.2.2.2.2.2.1.2.2.1
  have hRW := hV.2.2.2.2.2.1.2.2.2
  have hB0 := hV.2.2.2.2.2.2.1
  have hS3 := hV.2.2.2.2.2.2.2
  have hMI := hK.1.2.1
  have h0 := hMI.2.2
  have h7 := hMI.1.1.2.1
  obtain ⟨τ', e2, k2⟩ := mp_van hA hT (w := w)
  exact ⟨_, σ, τ', cv_van hK.1, e2, t, D, Z, k2, hK, hV⟩
theorem pub_way {σ τ : Sg} (hI : INV σ τ) {x y : Int32}  : ∃ r : Int32, ∃ σ' τ', Ev false 144 [.inr (.inr (0, false, 0)), .inl x, .inl y] σ (some (.inl r)) σ' ∧ Ev true 162 [.inr (.inr (69, false, 0)), .inl x, .inl y] τ (some (.inl r)) τ' ∧ INV σ' τ' := by
  obtain ⟨t, D, Z, hA, hK, hV⟩ := hI
  have hT := hV.1.1
  have hWT := hV.1.2.1
  have hRT := hV.1.2.2.1
  have hX := hV.1.2.2.2.1
  have hX2 := hV.2.1
  have hM := hV.2.2.1.1
  have hR := hV.2.2.1.2
  have hB8 := hV.2.2.2.1
  have hHA := hV.2.2.2.2.1
  have hH := hHA.1.1
  have hND := hV.2.2.2.2.2.1.1
  have hSI := hV.2.2.2.2.2.1.2.1
  have hTE := hV.2.2.2.2.2.1.2.2.1
  have hRW := hV.2.2.2.2.2.1.2.2.2
  have hB0 := hV.2.2.2.2.2.2.1
  have hS3 := hV.2.2.2.2.2.2.2
  have hMI := hK.1.2.1
  have h0 := hMI.2.2
  have h7 := hMI.1.1.2.1
  obtain ⟨τ', e2, k2⟩ := mp_way hA hT (x := x) (y := y)
  exact ⟨_, σ, τ', cv_wayt hK.1 hT, e2, t, D, Z, k2, hK, hV⟩
theorem pub_log {σ τ : Sg} (hI : INV σ τ) {x w : Int32}  : ∃ r : Int32, ∃ σ' τ', Ev false 99 [.inr (.inr (0, false, 0)), .inl x, .inl w] σ (some (.inl r)) σ' ∧ Ev true 121 [.inr (.inr (69, false, 0)), .inl x, .inl w] τ (some (.inl r)) τ' ∧ INV σ' τ' := by
  obtain ⟨t, D, Z, hA, hK, hV⟩ := hI
  have hT := hV.1.1
  have hWT := hV.1.2.1
  have hRT := hV.1.2.2.1
  have hX := hV.1.2.2.2.1
  have hX2 := hV.2.1
  have hM := hV.2.2.1.1
  have hR := hV.2.2.1.2
  have hB8 := hV.2.2.2.1
  have hHA := hV.2.2.2.2.1
  have hH := hHA.1.1
  have hND := hV.2.2.2.2.2.1.1
  have hSI := hV.2.2.2.2.2.1.2.1
  have hTE := hV.2.2.2.2.2.1.2.2.1
  have hRW := hV.2.2.2.2.2.1.2.2.2
  have hB0 := hV.2.2.2.2.2.2.1
  have hS3 := hV.2.2.2.2.2.2.2
  have hMI := hK.1.2.1
  have h0 := hMI.2.2
  have h7 := hMI.1.1.2.1
  obtain ⟨τ', e2, k2⟩ := mp_log hA hT (h7 := h7) (x := x) (w := w)
  exact ⟨_, σ, τ', cv_log hK hT h7 (x := x) (w := w), e2, t, D, Z, k2, hK, hV⟩
theorem pub_asOf {σ τ : Sg} (hI : INV σ τ) {x m : Int32}  : ∃ r : Int32, ∃ σ' τ', Ev false 145 [.inr (.inr (0, false, 0)), .inl x, .inl m] σ (some (.inl r)) σ' ∧ Ev true 163 [.inr (.inr (69, false, 0)), .inl x, .inl m] τ (some (.inl r)) τ' ∧ INV σ' τ' := by
  obtain ⟨t, D, Z, hA, hK, hV⟩ := hI
  have hT := hV.1.1
  have hWT := hV.1.2.1
  have hRT := hV.1.2.2.1
  have hX := hV.1.2.2.2.1
  have hX2 := hV.2.1
  have hM := hV.2.2.1.1
  have hR := hV.2.2.1.2
  have hB8 := hV.2.2.2.1
  have hHA := hV.2.2.2.2.1
  have hH := hHA.1.1
  have hND := hV.2.2.2.2.2.1.1
  have hSI := hV.2.2.2.2.2.1.2.1
  have hTE := hV.2.2.2.2.2.1.2.2.1
  have hRW := hV.2.2.2.2.2.1.2.2.2
  have hB0 := hV.2.2.2.2.2.2.1
  have hS3 := hV.2.2.2.2.2.2.2
  have hMI := hK.1.2.1
  have h0 := hMI.2.2
  have h7 := hMI.1.1.2.1
  obtain ⟨τ', e2, k2⟩ := mp_asOf hA hT (h7 := h7) (x := x) (m := m)
  exact ⟨_, σ, τ', cv_asOf hK hT h7 (x := x) (m := m), e2, t, D, Z, k2, hK, hV⟩
theorem pub_ends {σ τ : Sg} (hI : INV σ τ) {x h w : Int32}  : ∃ r : Int32, ∃ σ' τ', Ev false 100 [.inr (.inr (0, false, 0)), .inl x, .inl h, .inl w] σ (some (.inl r)) σ' ∧ Ev true 164 [.inr (.inr (69, false, 0)), .inl x, .inl h, .inl w] τ (some (.inl r)) τ' ∧ INV σ' τ' := by
  obtain ⟨t, D, Z, hA, hK, hV⟩ := hI
  have hT := hV.1.1
  have hWT := hV.1.2.1
  have hRT := hV.1.2.2.1
  have hX := hV.1.2.2.2.1
  have hX2 := hV.2.1
  have hM := hV.2.2.1.1
  have hR := hV.2.2.1.2
  have hB8 := hV.2.2.2.1
  have hHA := hV.2.2.2.2.1
  have hH := hHA.1.1
  have hND := hV.2.2.2.2.2.1.1
  have hSI := hV.2.2.2.2.2.1.2.1
  have hTE := hV.2.2.2.2.2.1.2.2.1
  have hRW := hV.2.2.2.2.2.1.2.2.2
  have hB0 := hV.2.2.2.2.2.2.1
  have hS3 := hV.2.2.2.2.2.2.2
  have hMI := hK.1.2.1
  have h0 := hMI.2.2
  have h7 := hMI.1.1.2.1
  obtain ⟨τ', e2, k2⟩ := mp_ends hA hT (x := x) (h := h) (w := w)
  exact ⟨_, σ, τ', cv_ends hK hT (x := x) (h := h) (w := w), e2, t, D, Z, k2, hK, hV⟩
theorem pub_forecast {σ τ : Sg} (hI : INV σ τ) {w x h v : Int32}  : ∃ r : Int32, ∃ σ' τ', Ev false 146 [.inr (.inr (0, false, 0)), .inl w, .inl x, .inl h, .inl v] σ (some (.inl r)) σ' ∧ Ev true 165 [.inr (.inr (69, false, 0)), .inl w, .inl x, .inl h, .inl v] τ (some (.inl r)) τ' ∧ INV σ' τ' := by
  obtain ⟨t, D, Z, hA, hK, hV⟩ := hI
  have hT := hV.1.1
  have hWT := hV.1.2.1
  have hRT := hV.1.2.2.1
  have hX := hV.1.2.2.2.1
  have hX2 := hV.2.1
  have hM := hV.2.2.1.1
  have hR := hV.2.2.1.2
  have hB8 := hV.2.2.2.1
  have hHA := hV.2.2.2.2.1
  have hH := hHA.1.1
  have hND := hV.2.2.2.2.2.1.1
  have hSI := hV.2.2.2.2.2.1.2.1
  have hTE := hV.2.2.2.2.2.1.2.2.1
  have hRW := hV.2.2.2.2.2.1.2.2.2
  have hB0 := hV.2.2.2.2.2.2.1
  have hS3 := hV.2.2.2.2.2.2.2
  have hMI := hK.1.2.1
  have h0 := hMI.2.2
  have h7 := hMI.1.1.2.1
  obtain ⟨τ', e2, k2⟩ := mp_forecast hA hT (hN := hND) (w := w) (x := x) (h := h) (v := v)
  exact ⟨_, σ, τ', cv_forecast hK hT hND (w := w) (x := x) (h := h) (v := v), e2, t, D, Z, k2, hK, hV⟩
theorem pub_want {σ τ : Sg} (hI : INV σ τ) {x v : Int32}  : ∃ r : Int32, ∃ σ' τ', Ev false 102 [.inr (.inr (0, false, 0)), .inl x, .inl v] σ (some (.inl r)) σ' ∧ Ev true 166 [.inr (.inr (69, false, 0)), .inl x, .inl v] τ (some (.inl r)) τ' ∧ INV σ' τ' := by
  obtain ⟨t, D, Z, hA, hK, hV⟩ := hI
  have hT := hV.1.1
  have hWT := hV.1.2.1
  have hRT := hV.1.2.2.1
  have hX := hV.1.2.2.2.1
  have hX2 := hV.2.1
  have hM := hV.2.2.1.1
  have hR := hV.2.2.1.2
  have hB8 := hV.2.2.2.1
  have hHA := hV.2.2.2.2.1
  have hH := hHA.1.1
  have hND := hV.2.2.2.2.2.1.1
  have hSI := hV.2.2.2.2.2.1.2.1
  have hTE := hV.2.2.2.2.2.1.2.2.1
  have hRW := hV.2.2.2.2.2.1.2.2.2
  have hB0 := hV.2.2.2.2.2.2.1
  have hS3 := hV.2.2.2.2.2.2.2
  have hMI := hK.1.2.1
  have h0 := hMI.2.2
  have h7 := hMI.1.1.2.1
  obtain ⟨σ', e1, k1⟩ := cv_want hK hT (x := x) (v := v)
  obtain ⟨τ', e2, k2⟩ := mp_want hA hT (x := x) (v := v)
  exact ⟨_, σ', τ', e1, e2, _, _, Z, k2, k1, kv_want hV (x := x) (v := v)⟩
theorem pub_round {σ τ : Sg} (hI : INV σ τ)  : ∃ r : Int32, ∃ σ' τ', Ev false 221 [.inr (.inr (0, false, 0))] σ (some (.inl r)) σ' ∧ Ev true 218 [.inr (.inr (69, false, 0))] τ (some (.inl r)) τ' ∧ INV σ' τ' := by
  obtain ⟨t, D, Z, hA, hK, hV⟩ := hI
  have hT := hV.1.1
  have hWT := hV.1.2.1
  have hRT := hV.1.2.2.1
  have hX := hV.1.2.2.2.1
  have hX2 := hV.2.1
  have hM := hV.2.2.1.1
  have hR := hV.2.2.1.2
  have hB8 := hV.2.2.2.1
  have hHA := hV.2.2.2.2.1
  have hH := hHA.1.1
  have hND := hV.2.2.2.2.2.1.1
  have hSI := hV.2.2.2.2.2.1.2.1
  have hTE := hV.2.2.2.2.2.1.2.2.1
  have hRW := hV.2.2.2.2.2.1.2.2.2
  have hB0 := hV.2.2.2.2.2.2.1
  have hS3 := hV.2.2.2.2.2.2.2
  have hMI := hK.1.2.1
  have h0 := hMI.2.2
  have h7 := hMI.1.1.2.1
  have hRV : RV t D := ⟨hMI.1.1.2.2.2.2.2, hRW⟩
  obtain ⟨σ', e1, k1⟩ := cv_round hK hT hWT hRV
  obtain ⟨τ', e2, k2⟩ := mp_round hA hT hWT hMI.1.1
  exact ⟨_, σ', τ', e1, e2, _, _, Z, k2, k1, hV⟩
theorem pub_roundAt {σ τ : Sg} (hI : INV σ τ) {x : Int32}  : ∃ r : Int32, ∃ σ' τ', Ev false 222 [.inr (.inr (0, false, 0)), .inl x] σ (some (.inl r)) σ' ∧ Ev true 219 [.inr (.inr (69, false, 0)), .inl x] τ (some (.inl r)) τ' ∧ INV σ' τ' := by
  obtain ⟨t, D, Z, hA, hK, hV⟩ := hI
  have hT := hV.1.1
  have hWT := hV.1.2.1
  have hRT := hV.1.2.2.1
  have hX := hV.1.2.2.2.1
  have hX2 := hV.2.1
  have hM := hV.2.2.1.1
  have hR := hV.2.2.1.2
  have hB8 := hV.2.2.2.1
  have hHA := hV.2.2.2.2.1
  have hH := hHA.1.1
  have hND := hV.2.2.2.2.2.1.1
  have hSI := hV.2.2.2.2.2.1.2.1
  have hTE := hV.2.2.2.2.2.1.2.2.1
  have hRW := hV.2.2.2.2.2.1.2.2.2
  have hB0 := hV.2.2.2.2.2.2.1
  have hS3 := hV.2.2.2.2.2.2.2
  have hMI := hK.1.2.1
  have h0 := hMI.2.2
  have h7 := hMI.1.1.2.1
  have hRV : RV t D := ⟨hMI.1.1.2.2.2.2.2, hRW⟩
  obtain ⟨σ', e1, k1⟩ := cv_roundAt hK hT hWT hRV (x := x)
  obtain ⟨τ', e2, k2⟩ := mp_roundAt hA hT hWT hMI.1.1 (x := x)
  exact ⟨_, σ', τ', e1, e2, _, _, Z, k2, k1, hV⟩
theorem pub_gain {σ τ : Sg} (hI : INV σ τ) {w a b v : Int32}  : ∃ r : Int32, ∃ σ' τ', Ev false 103 [.inr (.inr (0, false, 0)), .inl w, .inl a, .inl b, .inl v] σ (some (.inl r)) σ' ∧ Ev true 168 [.inr (.inr (69, false, 0)), .inl w, .inl a, .inl b, .inl v] τ (some (.inl r)) τ' ∧ INV σ' τ' := by
  obtain ⟨t, D, Z, hA, hK, hV⟩ := hI
  have hT := hV.1.1
  have hWT := hV.1.2.1
  have hRT := hV.1.2.2.1
  have hX := hV.1.2.2.2.1
  have hX2 := hV.2.1
  have hM := hV.2.2.1.1
  have hR := hV.2.2.1.2
  have hB8 := hV.2.2.2.1
  have hHA := hV.2.2.2.2.1
  have hH := hHA.1.1
  have hND := hV.2.2.2.2.2.1.1
  have hSI := hV.2.2.2.2.2.1.2.1
  have hTE := hV.2.2.2.2.2.1.2.2.1
  have hRW := hV.2.2.2.2.2.1.2.2.2
  have hB0 := hV.2.2.2.2.2.2.1
  have hS3 := hV.2.2.2.2.2.2.2
  have hMI := hK.1.2.1
  have h0 := hMI.2.2
  have h7 := hMI.1.1.2.1
  obtain ⟨σ', e1, k1⟩ := cv_gain hK hT (w := w) (a := a) (b := b) (v := v)
  obtain ⟨τ', e2, k2⟩ := mp_gain hA hT (w := w) (a := a) (b := b) (v := v)
  exact ⟨_, σ', τ', e1, e2, _, _, Z, k2, k1, kv_gain hV (w := w) (a := a) (b := b) (v := v)⟩
theorem pub_still {σ τ : Sg} (hI : INV σ τ)  : ∃ r : Int32, ∃ σ' τ', Ev false 223 [.inr (.inr (0, false, 0))] σ (some (.inl r)) σ' ∧ Ev true 169 [.inr (.inr (69, false, 0))] τ (some (.inl r)) τ' ∧ INV σ' τ' := by
  obtain ⟨t, D, Z, hA, hK, hV⟩ := hI
  have hT := hV.1.1
  have hWT := hV.1.2.1
  have hRT := hV.1.2.2.1
  have hX := hV.1.2.2.2.1
  have hX2 := hV.2.1
  have hM := hV.2.2.1.1
  have hR := hV.2.2.1.2
  have hB8 := hV.2.2.2.1
  have hHA := hV.2.2.2.2.1
  have hH := hHA.1.1
  have hND := hV.2.2.2.2.2.1.1
  have hSI := hV.2.2.2.2.2.1.2.1
  have hTE := hV.2.2.2.2.2.1.2.2.1
  have hRW := hV.2.2.2.2.2.1.2.2.2
  have hB0 := hV.2.2.2.2.2.2.1
  have hS3 := hV.2.2.2.2.2.2.2
  have hMI := hK.1.2.1
  have h0 := hMI.2.2
  have h7 := hMI.1.1.2.1
  obtain ⟨τ', e2, k2⟩ := mp_still hA hT
  exact ⟨_, σ, τ', cv_still hK hT, e2, t, D, Z, k2, hK, hV⟩
theorem pub_stillAt {σ τ : Sg} (hI : INV σ τ) {x : Int32}  : ∃ r : Int32, ∃ σ' τ', Ev false 224 [.inr (.inr (0, false, 0)), .inl x] σ (some (.inl r)) σ' ∧ Ev true 170 [.inr (.inr (69, false, 0)), .inl x] τ (some (.inl r)) τ' ∧ INV σ' τ' := by
  obtain ⟨t, D, Z, hA, hK, hV⟩ := hI
  have hT := hV.1.1
  have hWT := hV.1.2.1
  have hRT := hV.1.2.2.1
  have hX := hV.1.2.2.2.1
  have hX2 := hV.2.1
  have hM := hV.2.2.1.1
  have hR := hV.2.2.1.2
  have hB8 := hV.2.2.2.1
  have hHA := hV.2.2.2.2.1
  have hH := hHA.1.1
  have hND := hV.2.2.2.2.2.1.1
  have hSI := hV.2.2.2.2.2.1.2.1
  have hTE := hV.2.2.2.2.2.1.2.2.1
  have hRW := hV.2.2.2.2.2.1.2.2.2
  have hB0 := hV.2.2.2.2.2.2.1
  have hS3 := hV.2.2.2.2.2.2.2
  have hMI := hK.1.2.1
  have h0 := hMI.2.2
  have h7 := hMI.1.1.2.1
  obtain ⟨τ', e2, k2⟩ := mp_stillAt hA hT (x := x)
  exact ⟨_, σ, τ', cv_stillAt hK hT (x := x), e2, t, D, Z, k2, hK, hV⟩
theorem pub_answers {σ τ : Sg} (hI : INV σ τ) {x y : Int32}  : ∃ r : Int32, ∃ σ' τ', Ev false 209 [.inr (.inr (0, false, 0)), .inl x, .inl y] σ (some (.inl r)) σ' ∧ Ev true 171 [.inr (.inr (69, false, 0)), .inl x, .inl y] τ (some (.inl r)) τ' ∧ INV σ' τ' := by
  obtain ⟨t, D, Z, hA, hK, hV⟩ := hI
  have hT := hV.1.1
  have hWT := hV.1.2.1
  have hRT := hV.1.2.2.1
  have hX := hV.1.2.2.2.1
  have hX2 := hV.2.1
  have hM := hV.2.2.1.1
  have hR := hV.2.2.1.2
  have hB8 := hV.2.2.2.1
  have hHA := hV.2.2.2.2.1
  have hH := hHA.1.1
  have hND := hV.2.2.2.2.2.1.1
  have hSI := hV.2.2.2.2.2.1.2.1
  have hTE := hV.2.2.2.2.2.1.2.2.1
  have hRW := hV.2.2.2.2.2.1.2.2.2
  have hB0 := hV.2.2.2.2.2.2.1
  have hS3 := hV.2.2.2.2.2.2.2
  have hMI := hK.1.2.1
  have h0 := hMI.2.2
  have h7 := hMI.1.1.2.1
  obtain ⟨σ', e1, k1⟩ := cv_answers hK hT (x := x) (y := y)
  obtain ⟨τ', e2, k2⟩ := mp_answers hA hT (x := x) (y := y)
  exact ⟨_, σ', τ', e1, e2, _, _, Z, k2, k1, hV⟩
theorem pub_site {σ τ : Sg} (hI : INV σ τ) {x y : Int32}  : ∃ r : Int32, ∃ σ' τ', Ev false 104 [.inr (.inr (0, false, 0)), .inl x, .inl y] σ (some (.inl r)) σ' ∧ Ev true 124 [.inr (.inr (69, false, 0)), .inl x, .inl y] τ (some (.inl r)) τ' ∧ INV σ' τ' := by
  obtain ⟨t, D, Z, hA, hK, hV⟩ := hI
  have hT := hV.1.1
  have hWT := hV.1.2.1
  have hRT := hV.1.2.2.1
  have hX := hV.1.2.2.2.1
  have hX2 := hV.2.1
  have hM := hV.2.2.1.1
  have hR := hV.2.2.1.2
  have hB8 := hV.2.2.2.1
  have hHA := hV.2.2.2.2.1
  have hH := hHA.1.1
  have hND := hV.2.2.2.2.2.1.1
  have hSI := hV.2.2.2.2.2.1.2.1
  have hTE := hV.2.2.2.2.2.1.2.2.1
  have hRW := hV.2.2.2.2.2.1.2.2.2
  have hB0 := hV.2.2.2.2.2.2.1
  have hS3 := hV.2.2.2.2.2.2.2
  have hMI := hK.1.2.1
  have h0 := hMI.2.2
  have h7 := hMI.1.1.2.1
  obtain ⟨σ', e1, k1⟩ := cv_site hK hT (hS := hSI.1) (x := x) (y := y)
  obtain ⟨τ', e2, k2⟩ := mp_site hA hT (hS := hSI.1) (x := x) (y := y)
  exact ⟨_, σ', τ', e1, e2, _, _, Z, k2, k1, kv_site hV (x := x) (y := y)⟩
theorem pub_wish {σ τ : Sg} (hI : INV σ τ) {x y n : Int32}  : ∃ r : Int32, ∃ σ' τ', Ev false 105 [.inr (.inr (0, false, 0)), .inl x, .inl y, .inl n] σ (some (.inl r)) σ' ∧ Ev true 125 [.inr (.inr (69, false, 0)), .inl x, .inl y, .inl n] τ (some (.inl r)) τ' ∧ INV σ' τ' := by
  obtain ⟨t, D, Z, hA, hK, hV⟩ := hI
  have hT := hV.1.1
  have hWT := hV.1.2.1
  have hRT := hV.1.2.2.1
  have hX := hV.1.2.2.2.1
  have hX2 := hV.2.1
  have hM := hV.2.2.1.1
  have hR := hV.2.2.1.2
  have hB8 := hV.2.2.2.1
  have hHA := hV.2.2.2.2.1
  have hH := hHA.1.1
  have hND := hV.2.2.2.2.2.1.1
  have hSI := hV.2.2.2.2.2.1.2.1
  have hTE := hV.2.2.2.2.2.1.2.2.1
  have hRW := hV.2.2.2.2.2.1.2.2.2
  have hB0 := hV.2.2.2.2.2.2.1
  have hS3 := hV.2.2.2.2.2.2.2
  have hMI := hK.1.2.1
  have h0 := hMI.2.2
  have h7 := hMI.1.1.2.1
  obtain ⟨σ', e1, k1⟩ := cv_wish hK hT (hS := hSI.2) (x := x) (y := y) (n := n)
  obtain ⟨τ', e2, k2⟩ := mp_wish hA hT (hS := hSI.2) (x := x) (y := y) (n := n)
  exact ⟨_, σ', τ', e1, e2, _, _, Z, k2, k1, kv_wish hV (x := x) (y := y) (n := n)⟩
theorem pub_sites {σ τ : Sg} (hI : INV σ τ) {x w : Int32}  : ∃ r : Int32, ∃ σ' τ', Ev false 210 [.inr (.inr (0, false, 0)), .inl x, .inl w] σ (some (.inl r)) σ' ∧ Ev true 172 [.inr (.inr (69, false, 0)), .inl x, .inl w] τ (some (.inl r)) τ' ∧ INV σ' τ' := by
  obtain ⟨t, D, Z, hA, hK, hV⟩ := hI
  have hT := hV.1.1
  have hWT := hV.1.2.1
  have hRT := hV.1.2.2.1
  have hX := hV.1.2.2.2.1
  have hX2 := hV.2.1
  have hM := hV.2.2.1.1
  have hR := hV.2.2.1.2
  have hB8 := hV.2.2.2.1
  have hHA := hV.2.2.2.2.1
  have hH := hHA.1.1
  have hND := hV.2.2.2.2.2.1.1
  have hSI := hV.2.2.2.2.2.1.2.1
  have hTE := hV.2.2.2.2.2.1.2.2.1
  have hRW := hV.2.2.2.2.2.1.2.2.2
  have hB0 := hV.2.2.2.2.2.2.1
  have hS3 := hV.2.2.2.2.2.2.2
  have hMI := hK.1.2.1
  have h0 := hMI.2.2
  have h7 := hMI.1.1.2.1
  obtain ⟨σ', e1, k1⟩ := cv_sites hK hT (hS := hSI) (x := x) (w := w)
  obtain ⟨τ', e2, k2⟩ := mp_sites hA hT (hS := hSI) (x := x) (w := w)
  exact ⟨_, σ', τ', e1, e2, _, _, Z, k2, k1, hV⟩
theorem pub_test {σ τ : Sg} (hI : INV σ τ) {x v : Int32} (hv : v = nI 0 ∨ v = nI 1) : ∃ r : Int32, ∃ σ' τ', Ev false 106 [.inr (.inr (0, false, 0)), .inl x, .inl v] σ (some (.inl r)) σ' ∧ Ev true 127 [.inr (.inr (69, false, 0)), .inl x, .inl v] τ (some (.inl r)) τ' ∧ INV σ' τ' := by
  obtain ⟨t, D, Z, hA, hK, hV⟩ := hI
  have hT := hV.1.1
  have hWT := hV.1.2.1
  have hRT := hV.1.2.2.1
  have hX := hV.1.2.2.2.1
  have hX2 := hV.2.1
  have hM := hV.2.2.1.1
  have hR := hV.2.2.1.2
  have hB8 := hV.2.2.2.1
  have hHA := hV.2.2.2.2.1
  have hH := hHA.1.1
  have hND := hV.2.2.2.2.2.1.1
  have hSI := hV.2.2.2.2.2.1.2.1
  have hTE := hV.2.2.2.2.2.1.2.2.1
  have hRW := hV.2.2.2.2.2.1.2.2.2
  have hB0 := hV.2.2.2.2.2.2.1
  have hS3 := hV.2.2.2.2.2.2.2
  have hMI := hK.1.2.1
  have h0 := hMI.2.2
  have h7 := hMI.1.1.2.1
  obtain ⟨σ', e1, k1⟩ := cv_test hK hT (hS := hTE.1) hv (x := x)
  obtain ⟨τ', e2, k2⟩ := mp_test hA hT (hS := hTE.1) hv (x := x)
  exact ⟨_, σ', τ', e1, e2, _, _, Z, k2, k1, kv_test hV (x := x)⟩
theorem pub_line {σ τ : Sg} (hI : INV σ τ) {x w : Int32}  : ∃ r : Int32, ∃ σ' τ', Ev false 147 [.inr (.inr (0, false, 0)), .inl x, .inl w] σ (some (.inl r)) σ' ∧ Ev true 128 [.inr (.inr (69, false, 0)), .inl x, .inl w] τ (some (.inl r)) τ' ∧ INV σ' τ' := by
  obtain ⟨t, D, Z, hA, hK, hV⟩ := hI
  have hT := hV.1.1
  have hWT := hV.1.2.1
  have hRT := hV.1.2.2.1
  have hX := hV.1.2.2.2.1
  have hX2 := hV.2.1
  have hM := hV.2.2.1.1
  have hR := hV.2.2.1.2
  have hB8 := hV.2.2.2.1
  have hHA := hV.2.2.2.2.1
  have hH := hHA.1.1
  have hND := hV.2.2.2.2.2.1.1
  have hSI := hV.2.2.2.2.2.1.2.1
  have hTE := hV.2.2.2.2.2.1.2.2.1
  have hRW := hV.2.2.2.2.2.1.2.2.2
  have hB0 := hV.2.2.2.2.2.2.1
  have hS3 := hV.2.2.2.2.2.2.2
  have hMI := hK.1.2.1
  have h0 := hMI.2.2
  have h7 := hMI.1.1.2.1
  obtain ⟨τ', e2, k2⟩ := mp_line hA hT (hS := hTE.1) (hS2 := hTE.2) (x := x) (w := w)
  exact ⟨_, σ, τ', cv_line hK hT (hS := hTE.1) (x := x) (w := w), e2, t, D, Z, k2, hK, hV⟩
theorem pub_count {σ τ : Sg} (hI : INV σ τ) {w : Int32}  : ∃ r : Int32, ∃ σ' τ', Ev false 43 [.inr (.inr (0, false, 0)), .inl w] σ (some (.inl r)) σ' ∧ Ev true 61 [.inr (.inr (69, false, 0)), .inl w] τ (some (.inl r)) τ' ∧ INV σ' τ' := by
  obtain ⟨t, D, Z, hA, hK, hV⟩ := hI
  have hT := hV.1.1
  have hWT := hV.1.2.1
  have hRT := hV.1.2.2.1
  have hX := hV.1.2.2.2.1
  have hX2 := hV.2.1
  have hM := hV.2.2.1.1
  have hR := hV.2.2.1.2
  have hB8 := hV.2.2.2.1
  have hHA := hV.2.2.2.2.1
  have hH := hHA.1.1
  have hND := hV.2.2.2.2.2.1.1
  have hSI := hV.2.2.2.2.2.1.2.1
  have hTE := hV.2.2.2.2.2.1.2.2.1
  have hRW := hV.2.2.2.2.2.1.2.2.2
  have hB0 := hV.2.2.2.2.2.2.1
  have hS3 := hV.2.2.2.2.2.2.2
  have hMI := hK.1.2.1
  have h0 := hMI.2.2
  have h7 := hMI.1.1.2.1
  obtain ⟨τ', e2, k2⟩ := mp_count hA hT (w := w)
  exact ⟨_, σ, τ', cv_count hK hT (w := w), e2, t, D, Z, k2, hK, hV⟩
theorem pub_digest {σ τ : Sg} (hI : INV σ τ)  : ∃ r : Int64, ∃ σ' τ', Ev false 148 [.inr (.inr (0, false, 0))] σ (some (.inr (.inl r))) σ' ∧ Ev true 193 [.inr (.inr (69, false, 0))] τ (some (.inr (.inl r))) τ' ∧ INV σ' τ' := by
  obtain ⟨t, D, Z, hA, hK, hV⟩ := hI
  have hT := hV.1.1
  have hWT := hV.1.2.1
  have hRT := hV.1.2.2.1
  have hX := hV.1.2.2.2.1
  have hX2 := hV.2.1
  have hM := hV.2.2.1.1
  have hR := hV.2.2.1.2
  have hB8 := hV.2.2.2.1
  have hHA := hV.2.2.2.2.1
  have hH := hHA.1.1
  have hND := hV.2.2.2.2.2.1.1
  have hSI := hV.2.2.2.2.2.1.2.1
  have hTE := hV.2.2.2.2.2.1.2.2.1
  have hRW := hV.2.2.2.2.2.1.2.2.2
  have hB0 := hV.2.2.2.2.2.2.1
  have hS3 := hV.2.2.2.2.2.2.2
  have hMI := hK.1.2.1
  have h0 := hMI.2.2
  have h7 := hMI.1.1.2.1
  obtain ⟨τ', e2, k2⟩ := mp_digest hA hT h7
  exact ⟨_, σ, τ', cv_digest hK hT hS3 h7, e2, t, D, Z, k2, hK, hV⟩
theorem pub_whatIf {σ τ : Sg} (hI : INV σ τ) {x w : Int32} : ∃ r : Int32, ∃ σ' τ', Ev false 228 [.inr (.inr (0, false, 0)), .inl x, .inl w] σ (some (.inl r)) σ' ∧ Ev true 226 [.inr (.inr (69, false, 0)), .inl x, .inl w] τ (some (.inl r)) τ' ∧ INV σ' τ' := by
  obtain ⟨t, D, Z, hA, hK, hV⟩ := hI
  have hT := hV.1.1
  have hWT := hV.1.2.1
  have hRT := hV.1.2.2.1
  have hX := hV.1.2.2.2.1
  have hX2 := hV.2.1
  have hM := hV.2.2.1.1
  have hR := hV.2.2.1.2
  have hB8 := hV.2.2.2.1
  have hHA := hV.2.2.2.2.1
  have hH := hHA.1.1
  have hND := hV.2.2.2.2.2.1.1
  have hSI := hV.2.2.2.2.2.1.2.1
  have hTE := hV.2.2.2.2.2.1.2.2.1
  have hRW := hV.2.2.2.2.2.1.2.2.2
  have hB0 := hV.2.2.2.2.2.2.1
  have hS3 := hV.2.2.2.2.2.2.2
  have hMI := hK.1.2.1
  have h0 := hMI.2.2
  have h7 := hMI.1.1.2.1
  have hI2 : ∀ k, k < nRu t → TI (wiT t D k) := fun k _ => wi_TI hV.1
  have hM2 : ∀ k, HM (wiT t D k) := fun k => wi_HM hM
  have hA2 : ∀ k, HA (wiT t D k) D := fun k => wi_HA hHA
  obtain ⟨σ', e1, k1⟩ := cv_whatIf hK hX hB8 hI2 (fun k => (hA2 k).1) (fun k => (hA2 k).2.1) hM2 (x := x) (w := w)
  obtain ⟨τ', e2, t2, D2, k2, k3, k4⟩ := mp_whatIf hA hT hX h0 (x := x) (w := w) hB8 hI2 (fun k => (hA2 k).1) (fun k => bgn_MI (wi_TI hV.1).1 (hM2 k)) (fun k => by rw [bgn_0 (by omega), if_neg (by omega)]; rfl)
  exact ⟨_, σ', τ', e1, e2, t2, D2, Z, k2, CK_28 k1 k3 k4, kv_28 hV k3 k4⟩
