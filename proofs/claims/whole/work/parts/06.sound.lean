/-! What the computed statement asks is enough. -/
theorem met_ent {mid i : Nat} {x : Ent} (hm : mid < nM) (he : (mD mid)[i]? = some x) : entOk mid (mD mid) i = true := by
  have h := met_ok hm
  unfold metOk at h
  simp only [Bool.and_eq_true] at h
  exact List.all_eq_true.mp h.2.2 i (List.mem_range.mpr (List.getElem?_eq_some_iff.mp he).1)
theorem pcM_of {mid i : Nat} {x : Ent} (he : (mD mid)[i]? = some x) : pcM mid i = x.1 := by unfold pcM pcAt; rw [he]; rfl
theorem ent_facts {mid i pc a b : Nat} {ins : Instr} {v : Int32} {ps : List (Int32 × Nat)} {po : Nat} (hm : mid < nM) (he : (mD mid)[i]? = some (pc, ins, a, b, v, ps, po)) :
    pcM mid i = pc ∧ argOk (mY mid).cls (mD mid) pc a b v ps po ins = true ∧ (isSw ins = false → decode (mC mid) pc = .ok (ins, lenOf ins) ∧ ∀ e', (mD mid)[i + 1]? = some e' → pcM mid (i + 1) = pc + lenOf ins) ∧ (isSw ins = true → ∃ n, decode (mC mid) pc = .ok (ins, n)) := by
  have h := met_ent hm he
  unfold entOk at h
  rw [he] at h
  simp only [Bool.and_eq_true] at h
  obtain ⟨h1, h2⟩ := h
  refine ⟨pcM_of he, h1, fun hs => ?_, fun hs => ?_⟩
  · rw [hs] at h2
    refine ⟨ent_dec (x := (pc, ins, a, b, v, ps, po)) hm he hs, fun e' he' => ?_⟩
    have h3 := h2
    dsimp only at h3
    have hpc : pcAt (mD mid) (i + 1) = some e'.1 := by unfold pcAt; rw [he']; rfl
    rw [hpc] at h3
    rw [pcM_of he']
    exact of_decide_eq_true h3
  · rw [hs] at h2
    dsimp only at h2
    split at h2
    next ins' n hd =>
      have := of_decide_eq_true h2
      subst this
      exact ⟨n, hd⟩
    next => cases h2
theorem tg_spec {mid pc t : Nat} {off : Int} (h : tgOk (mD mid) pc off t = true) : (pc : Int) + off = ((pcM mid t : Nat) : Int) := by
  unfold tgOk at h
  unfold pcM
  cases hp : pcAt (mD mid) t with
  | none => rw [hp] at h; cases h
  | some q =>
    rw [hp] at h
    exact of_decide_eq_true h
theorem hts_at {args : Array Value} {s : State} {n : Nat} {w : Jvm.Cond} (hts : ∀ w ∈ lw_g, w.before args s = true) (h : wAt n = some w) (hg : goodWord w = true := by rfl) : w.before args s = true := hts w (List.mem_filter.mpr ⟨List.mem_of_getElem? h, hg⟩)
theorem ldI_spec {L : Lc} {n : Nat} {k : AV → Prop} (h : ldI L n k) : ∃ x, L[n]? = some (some (.inl x)) ∧ k (.inl x) := by
  unfold ldI at h
  split at h
  next x hx => exact ⟨x, hx, h⟩
  next => exact h.elim
theorem ldJ_spec {L : Lc} {n : Nat} {k : AV → Prop} (h : ldJ L n k) : ∃ x, L[n]? = some (some (.inr (.inl x))) ∧ k (.inr (.inl x)) := by
  unfold ldJ at h
  split at h
  next x hx => exact ⟨x, hx, h⟩
  next => exact h.elim
theorem ldR_spec {L : Lc} {n : Nat} {k : AV → Prop} (h : ldR L n k) : ∃ x, L[n]? = some (some (.inr (.inr x))) ∧ k (.inr (.inr x)) := by
  unfold ldR at h
  split at h
  next x hx => exact ⟨x, hx, h⟩
  next => exact h.elim
theorem stS_spec {L : Lc} {n : Nat} {v : AV} {k : Lc → Prop} (h : stS L n v k) : noL L n = true ∧ n < L.length ∧ k (L.set n (some v)) := by
  unfold stS at h
  split at h
  next hc =>
    rw [Bool.and_eq_true] at hc
    exact ⟨hc.1, Nat.blt_eq.mp hc.2, h⟩
  next => exact h.elim
theorem stS2_spec {L : Lc} {n : Nat} {v : AV} {k : Lc → Prop} (h : stS2 L n v k) : noL L n = true ∧ n + 1 < L.length ∧ k ((L.set n (some v)).set (n + 1) none) := by
  unfold stS2 at h
  split at h
  next hc =>
    rw [Bool.and_eq_true] at hc
    exact ⟨hc.1, Nat.blt_eq.mp hc.2, h⟩
  next => exact h.elim
theorem fallG {sd : Bool} {mid i pc len : Nat} {P : Option AV → Sg → Prop} {L L2 : Lc} {st st2 : List AV} {σ : Sg} (hp : pcM mid i = pc) (hnx : ∀ e', (mD mid)[i + 1]? = some e' → pcM mid (i + 1) = pc + len) (k : (∃ e', (mD mid)[i + 1]? = some e') ∧ G sd mid P (i + 1) L2 st2 σ)
    (row : ∀ (p : Program) (l : Launch) (e : Env) (s : State) (m : MethodId) (args : Array Value) (below : List Frame) (meth : Method) (c : Code) (H : Heap) (locs : List Loc) (ls : Array Slot) (D : va_G) (cs : Cs) (as : Ad) (d : Nat) (Q : State → Prop), Cx mid p s m args meth c → Wl sd D cs as σ (Aof sd as s.heap.size) s H → hasL as ls (mN mid) L → (∀ ls2, hasL as ls2 (mN mid) L2 → W p l e (rmD d) s m args below meth c H locs 0 0 Q (F0 m (pc + len) ls2 (st2.map (cv as)))) → W p l e (rmD d) s m args below meth c H locs 0 0 Q (F0 m pc ls (st.map (cv as)))) : G sd mid P i L st σ := by
  obtain ⟨⟨e', he'⟩, k⟩ := k
  refine G_of (fun r σ' hG => ?_) k
  intro p l e s m args below meth c H locs ls D cs as d hd hC hW hS hl
  rw [hp]
  refine row p l e s m args below meth c H locs ls D cs as d _ hC hW hl (fun ls2 hl2 => ?_)
  have := hG p l e s m args below meth c H locs ls2 D cs as d hd hC hW hS hl2
  rwa [hnx e' he'] at this
theorem fallS {sd : Bool} {mid i pc len : Nat} {P : Option AV → Sg → Prop} {L : Lc} {st st2 : List AV} {σ σ2 : Sg} (hp : pcM mid i = pc) (hnx : ∀ e', (mD mid)[i + 1]? = some e' → pcM mid (i + 1) = pc + len) (k : (∃ e', (mD mid)[i + 1]? = some e') ∧ G sd mid P (i + 1) L st2 σ2)
    (row : ∀ (p : Program) (l : Launch) (e : Env) (s : State) (m : MethodId) (args : Array Value) (below : List Frame) (meth : Method) (c : Code) (H : Heap) (locs : List Loc) (ls : Array Slot) (D : va_G) (cs : Cs) (as : Ad) (d : Nat) (Q : State → Prop), mH mid ≤ d → Cx mid p s m args meth c → Wl sd D cs as σ (Aof sd as s.heap.size) s H → va_S (Aof sd as s.heap.size) s.heap H locs → ls.size = c.maxLocals → (∀ H1 locs1, Wl sd D cs as σ2 (Aof sd as s.heap.size) s H1 → va_S (Aof sd as s.heap.size) s.heap H1 locs1 → W p l e (rmD d) s m args below meth c H1 locs1 0 0 Q (F0 m (pc + len) ls (st2.map (cv as)))) → W p l e (rmD d) s m args below meth c H locs 0 0 Q (F0 m pc ls (st.map (cv as)))) : G sd mid P i L st σ := by
  obtain ⟨⟨e', he'⟩, k⟩ := k
  refine G_of (fun r σ' hG => ?_) k
  intro p l e s m args below meth c H locs ls D cs as d hd hC hW hS hl
  rw [hp]
  refine row p l e s m args below meth c H locs ls D cs as d _ hd hC hW hS (hl.1.1.trans hC.2.2.2.1.symm) (fun H1 locs1 hW1 hS1 => ?_)
  have := hG p l e s m args below meth c H1 locs1 ls D cs as d hd hC hW1 hS1 hl
  rwa [hnx e' he'] at this
theorem sn_iconst {sd : Bool} {mid i pc a b : Nat} {P : Option AV → Sg → Prop} {v : Int32} {ps : List (Int32 × Nat)} {po : Nat} {L : Lc} {st : List AV} {σ : Sg} {J : Nat → Lc → List AV → Sg → Prop} {N : Lc → List AV → Sg → Prop} (hm : mid < nM) {n : Int} (he : (mD mid)[i]? = some (pc, .iconst n, a, b, v, ps, po)) (hJ : ∀ t L st σ, J t L st σ → G sd mid P t L st σ) (hN : ∀ L st σ, N L st σ → (∃ e', (mD mid)[i + 1]? = some e') ∧ G sd mid P (i + 1) L st σ) (h : stepw sd (mH mid) (mR mid) P J N a b v ps L st σ (.iconst n)) : G sd mid P i L st σ := by
  obtain ⟨hp, ha, h1, h2⟩ := ent_facts hm he
  obtain ⟨hdg, hnx⟩ := h1 rfl
  refine fallG hp hnx (hN _ _ _ h) (fun p l e s m args below meth c H locs ls D cs as dd Q hC hW hl kk => lv_iconst hC.1 hC.2.1 hdg (of_decide_eq_true ha) (kk ls hl))
theorem sn_bipush {sd : Bool} {mid i pc a b : Nat} {P : Option AV → Sg → Prop} {v : Int32} {ps : List (Int32 × Nat)} {po : Nat} {L : Lc} {st : List AV} {σ : Sg} {J : Nat → Lc → List AV → Sg → Prop} {N : Lc → List AV → Sg → Prop} (hm : mid < nM) {n : Int} (he : (mD mid)[i]? = some (pc, .bipush n, a, b, v, ps, po)) (hJ : ∀ t L st σ, J t L st σ → G sd mid P t L st σ) (hN : ∀ L st σ, N L st σ → (∃ e', (mD mid)[i + 1]? = some e') ∧ G sd mid P (i + 1) L st σ) (h : stepw sd (mH mid) (mR mid) P J N a b v ps L st σ (.bipush n)) : G sd mid P i L st σ := by
  obtain ⟨hp, ha, h1, h2⟩ := ent_facts hm he
  obtain ⟨hdg, hnx⟩ := h1 rfl
  refine fallG hp hnx (hN _ _ _ h) (fun p l e s m args below meth c H locs ls D cs as dd Q hC hW hl kk => lv_bipush hC.1 hC.2.1 hdg (of_decide_eq_true ha) (kk ls hl))
theorem sn_sipush {sd : Bool} {mid i pc a b : Nat} {P : Option AV → Sg → Prop} {v : Int32} {ps : List (Int32 × Nat)} {po : Nat} {L : Lc} {st : List AV} {σ : Sg} {J : Nat → Lc → List AV → Sg → Prop} {N : Lc → List AV → Sg → Prop} (hm : mid < nM) {n : Int} (he : (mD mid)[i]? = some (pc, .sipush n, a, b, v, ps, po)) (hJ : ∀ t L st σ, J t L st σ → G sd mid P t L st σ) (hN : ∀ L st σ, N L st σ → (∃ e', (mD mid)[i + 1]? = some e') ∧ G sd mid P (i + 1) L st σ) (h : stepw sd (mH mid) (mR mid) P J N a b v ps L st σ (.sipush n)) : G sd mid P i L st σ := by
  obtain ⟨hp, ha, h1, h2⟩ := ent_facts hm he
  obtain ⟨hdg, hnx⟩ := h1 rfl
  refine fallG hp hnx (hN _ _ _ h) (fun p l e s m args below meth c H locs ls D cs as dd Q hC hW hl kk => lv_sipush hC.1 hC.2.1 hdg (of_decide_eq_true ha) (kk ls hl))
theorem sn_ldc {sd : Bool} {mid i pc a b : Nat} {P : Option AV → Sg → Prop} {v : Int32} {ps : List (Int32 × Nat)} {po : Nat} {L : Lc} {st : List AV} {σ : Sg} {J : Nat → Lc → List AV → Sg → Prop} {N : Lc → List AV → Sg → Prop} (hm : mid < nM) {n : Nat} (he : (mD mid)[i]? = some (pc, .ldc n, a, b, v, ps, po)) (hJ : ∀ t L st σ, J t L st σ → G sd mid P t L st σ) (hN : ∀ L st σ, N L st σ → (∃ e', (mD mid)[i + 1]? = some e') ∧ G sd mid P (i + 1) L st σ) (h : stepw sd (mH mid) (mR mid) P J N a b v ps L st σ (.ldc n)) : G sd mid P i L st σ := by
  obtain ⟨hp, ha, h1, h2⟩ := ent_facts hm he
  obtain ⟨hdg, hnx⟩ := h1 rfl
  simp only [argOk, decide_eq_true_eq] at ha
  refine fallG hp hnx (hN _ _ _ h) (fun p l e s m args below meth c H locs ls D cs as dd Q hC hW hl kk => lv_ldc hC.1 hC.2.1 hC.2.2.2.2.1 (hts_at hC.2.2.2.2.2.1 ha) hdg (kk ls hl))
theorem sn_ldc_w {sd : Bool} {mid i pc a b : Nat} {P : Option AV → Sg → Prop} {v : Int32} {ps : List (Int32 × Nat)} {po : Nat} {L : Lc} {st : List AV} {σ : Sg} {J : Nat → Lc → List AV → Sg → Prop} {N : Lc → List AV → Sg → Prop} (hm : mid < nM) {n : Nat} (he : (mD mid)[i]? = some (pc, .ldc_w n, a, b, v, ps, po)) (hJ : ∀ t L st σ, J t L st σ → G sd mid P t L st σ) (hN : ∀ L st σ, N L st σ → (∃ e', (mD mid)[i + 1]? = some e') ∧ G sd mid P (i + 1) L st σ) (h : stepw sd (mH mid) (mR mid) P J N a b v ps L st σ (.ldc_w n)) : G sd mid P i L st σ := by
  obtain ⟨hp, ha, h1, h2⟩ := ent_facts hm he
  obtain ⟨hdg, hnx⟩ := h1 rfl
  simp only [argOk, decide_eq_true_eq] at ha
  refine fallG hp hnx (hN _ _ _ h) (fun p l e s m args below meth c H locs ls D cs as dd Q hC hW hl kk => lv_ldcw hC.1 hC.2.1 hC.2.2.2.2.1 (hts_at hC.2.2.2.2.2.1 ha) hdg (kk ls hl))
theorem sn_ldc2_w {sd : Bool} {mid i pc a b : Nat} {P : Option AV → Sg → Prop} {v : Int32} {ps : List (Int32 × Nat)} {po : Nat} {L : Lc} {st : List AV} {σ : Sg} {J : Nat → Lc → List AV → Sg → Prop} {N : Lc → List AV → Sg → Prop} (hm : mid < nM) {n : Nat} (he : (mD mid)[i]? = some (pc, .ldc2_w n, a, b, v, ps, po)) (hJ : ∀ t L st σ, J t L st σ → G sd mid P t L st σ) (hN : ∀ L st σ, N L st σ → (∃ e', (mD mid)[i + 1]? = some e') ∧ G sd mid P (i + 1) L st σ) (h : stepw sd (mH mid) (mR mid) P J N a b v ps L st σ (.ldc2_w n)) : G sd mid P i L st σ := by
  obtain ⟨hp, ha, h1, h2⟩ := ent_facts hm he
  obtain ⟨hdg, hnx⟩ := h1 rfl
  simp only [argOk, decide_eq_true_eq] at ha
  refine fallG hp hnx (hN _ _ _ h) (fun p l e s m args below meth c H locs ls D cs as dd Q hC hW hl kk => lv_ldc2 hC.1 hC.2.1 hC.2.2.2.2.1 (hts_at hC.2.2.2.2.2.1 ha) hdg (kk ls hl))
theorem sn_iload {sd : Bool} {mid i pc a b : Nat} {P : Option AV → Sg → Prop} {v : Int32} {ps : List (Int32 × Nat)} {po : Nat} {L : Lc} {st : List AV} {σ : Sg} {J : Nat → Lc → List AV → Sg → Prop} {N : Lc → List AV → Sg → Prop} (hm : mid < nM) {n : Nat} (he : (mD mid)[i]? = some (pc, .iload n, a, b, v, ps, po)) (hJ : ∀ t L st σ, J t L st σ → G sd mid P t L st σ) (hN : ∀ L st σ, N L st σ → (∃ e', (mD mid)[i + 1]? = some e') ∧ G sd mid P (i + 1) L st σ) (h : stepw sd (mH mid) (mR mid) P J N a b v ps L st σ (.iload n)) : G sd mid P i L st σ := by
  obtain ⟨hp, ha, h1, h2⟩ := ent_facts hm he
  obtain ⟨hdg, hnx⟩ := h1 rfl
  unfold stepw at h
  dsimp only at h
  obtain ⟨x, hx, h⟩ := ldI_spec h
  refine fallG hp hnx (hN _ _ _ h) (fun p l e s m args below meth c H locs ls D cs as dd Q hC hW hl kk => lv_iload hC.1 hC.2.1 hdg (hasL_at hl hx) (kk ls hl))
theorem sn_iload_n {sd : Bool} {mid i pc a b : Nat} {P : Option AV → Sg → Prop} {v : Int32} {ps : List (Int32 × Nat)} {po : Nat} {L : Lc} {st : List AV} {σ : Sg} {J : Nat → Lc → List AV → Sg → Prop} {N : Lc → List AV → Sg → Prop} (hm : mid < nM) {n : Fin 4} (he : (mD mid)[i]? = some (pc, .iload_n n, a, b, v, ps, po)) (hJ : ∀ t L st σ, J t L st σ → G sd mid P t L st σ) (hN : ∀ L st σ, N L st σ → (∃ e', (mD mid)[i + 1]? = some e') ∧ G sd mid P (i + 1) L st σ) (h : stepw sd (mH mid) (mR mid) P J N a b v ps L st σ (.iload_n n)) : G sd mid P i L st σ := by
  obtain ⟨hp, ha, h1, h2⟩ := ent_facts hm he
  obtain ⟨hdg, hnx⟩ := h1 rfl
  unfold stepw at h
  dsimp only at h
  obtain ⟨x, hx, h⟩ := ldI_spec h
  refine fallG hp hnx (hN _ _ _ h) (fun p l e s m args below meth c H locs ls D cs as dd Q hC hW hl kk => lv_iload_n hC.1 hC.2.1 hdg rfl (hasL_at hl hx) (kk ls hl))
theorem sn_lload {sd : Bool} {mid i pc a b : Nat} {P : Option AV → Sg → Prop} {v : Int32} {ps : List (Int32 × Nat)} {po : Nat} {L : Lc} {st : List AV} {σ : Sg} {J : Nat → Lc → List AV → Sg → Prop} {N : Lc → List AV → Sg → Prop} (hm : mid < nM) {n : Nat} (he : (mD mid)[i]? = some (pc, .lload n, a, b, v, ps, po)) (hJ : ∀ t L st σ, J t L st σ → G sd mid P t L st σ) (hN : ∀ L st σ, N L st σ → (∃ e', (mD mid)[i + 1]? = some e') ∧ G sd mid P (i + 1) L st σ) (h : stepw sd (mH mid) (mR mid) P J N a b v ps L st σ (.lload n)) : G sd mid P i L st σ := by
  obtain ⟨hp, ha, h1, h2⟩ := ent_facts hm he
  obtain ⟨hdg, hnx⟩ := h1 rfl
  unfold stepw at h
  dsimp only at h
  obtain ⟨x, hx, h⟩ := ldJ_spec h
  refine fallG hp hnx (hN _ _ _ h) (fun p l e s m args below meth c H locs ls D cs as dd Q hC hW hl kk => lv_lload hC.1 hC.2.1 hdg (hasL_at hl hx) (kk ls hl))
theorem sn_lload_n {sd : Bool} {mid i pc a b : Nat} {P : Option AV → Sg → Prop} {v : Int32} {ps : List (Int32 × Nat)} {po : Nat} {L : Lc} {st : List AV} {σ : Sg} {J : Nat → Lc → List AV → Sg → Prop} {N : Lc → List AV → Sg → Prop} (hm : mid < nM) {n : Fin 4} (he : (mD mid)[i]? = some (pc, .lload_n n, a, b, v, ps, po)) (hJ : ∀ t L st σ, J t L st σ → G sd mid P t L st σ) (hN : ∀ L st σ, N L st σ → (∃ e', (mD mid)[i + 1]? = some e') ∧ G sd mid P (i + 1) L st σ) (h : stepw sd (mH mid) (mR mid) P J N a b v ps L st σ (.lload_n n)) : G sd mid P i L st σ := by
  obtain ⟨hp, ha, h1, h2⟩ := ent_facts hm he
  obtain ⟨hdg, hnx⟩ := h1 rfl
  unfold stepw at h
  dsimp only at h
  obtain ⟨x, hx, h⟩ := ldJ_spec h
  refine fallG hp hnx (hN _ _ _ h) (fun p l e s m args below meth c H locs ls D cs as dd Q hC hW hl kk => lv_lload_n hC.1 hC.2.1 hdg rfl (hasL_at hl hx) (kk ls hl))
theorem sn_aload {sd : Bool} {mid i pc a b : Nat} {P : Option AV → Sg → Prop} {v : Int32} {ps : List (Int32 × Nat)} {po : Nat} {L : Lc} {st : List AV} {σ : Sg} {J : Nat → Lc → List AV → Sg → Prop} {N : Lc → List AV → Sg → Prop} (hm : mid < nM) {n : Nat} (he : (mD mid)[i]? = some (pc, .aload n, a, b, v, ps, po)) (hJ : ∀ t L st σ, J t L st σ → G sd mid P t L st σ) (hN : ∀ L st σ, N L st σ → (∃ e', (mD mid)[i + 1]? = some e') ∧ G sd mid P (i + 1) L st σ) (h : stepw sd (mH mid) (mR mid) P J N a b v ps L st σ (.aload n)) : G sd mid P i L st σ := by
  obtain ⟨hp, ha, h1, h2⟩ := ent_facts hm he
  obtain ⟨hdg, hnx⟩ := h1 rfl
  unfold stepw at h
  dsimp only at h
  obtain ⟨x, hx, h⟩ := ldR_spec h
  refine fallG hp hnx (hN _ _ _ h) (fun p l e s m args below meth c H locs ls D cs as dd Q hC hW hl kk => lv_aload hC.1 hC.2.1 hdg (hasL_at hl hx) (kk ls hl))
theorem sn_aload_n {sd : Bool} {mid i pc a b : Nat} {P : Option AV → Sg → Prop} {v : Int32} {ps : List (Int32 × Nat)} {po : Nat} {L : Lc} {st : List AV} {σ : Sg} {J : Nat → Lc → List AV → Sg → Prop} {N : Lc → List AV → Sg → Prop} (hm : mid < nM) {n : Fin 4} (he : (mD mid)[i]? = some (pc, .aload_n n, a, b, v, ps, po)) (hJ : ∀ t L st σ, J t L st σ → G sd mid P t L st σ) (hN : ∀ L st σ, N L st σ → (∃ e', (mD mid)[i + 1]? = some e') ∧ G sd mid P (i + 1) L st σ) (h : stepw sd (mH mid) (mR mid) P J N a b v ps L st σ (.aload_n n)) : G sd mid P i L st σ := by
  obtain ⟨hp, ha, h1, h2⟩ := ent_facts hm he
  obtain ⟨hdg, hnx⟩ := h1 rfl
  unfold stepw at h
  dsimp only at h
  obtain ⟨x, hx, h⟩ := ldR_spec h
  refine fallG hp hnx (hN _ _ _ h) (fun p l e s m args below meth c H locs ls D cs as dd Q hC hW hl kk => lv_aload_n hC.1 hC.2.1 hdg rfl (hasL_at hl hx) (kk ls hl))
theorem sn_istore {sd : Bool} {mid i pc a b : Nat} {P : Option AV → Sg → Prop} {v : Int32} {ps : List (Int32 × Nat)} {po : Nat} {L : Lc} {st : List AV} {σ : Sg} {J : Nat → Lc → List AV → Sg → Prop} {N : Lc → List AV → Sg → Prop} (hm : mid < nM) {n : Nat} (he : (mD mid)[i]? = some (pc, .istore n, a, b, v, ps, po)) (hJ : ∀ t L st σ, J t L st σ → G sd mid P t L st σ) (hN : ∀ L st σ, N L st σ → (∃ e', (mD mid)[i + 1]? = some e') ∧ G sd mid P (i + 1) L st σ) (h : stepw sd (mH mid) (mR mid) P J N a b v ps L st σ (.istore n)) : G sd mid P i L st σ := by
  obtain ⟨hp, ha, h1, h2⟩ := ent_facts hm he
  obtain ⟨hdg, hnx⟩ := h1 rfl
  unfold stepw at h
  dsimp only at h
  split at h
  next x st' =>
    obtain ⟨x, rfl, h⟩ := h
    obtain ⟨hs1, hs2, h⟩ := stS_spec h
    refine fallG hp hnx (hN _ _ _ h) (fun p l e s m args below meth c H locs ls D cs as dd Q hC hW hl kk => lv_istore hC.1 hC.2.1 hdg hl.1 (by rw [← hl.2]; exact hs2) rfl (fun ls2 hl2 => kk ls2 (hasL_set hl hs1 hl2)))
  next => exact h.elim
theorem sn_istore_n {sd : Bool} {mid i pc a b : Nat} {P : Option AV → Sg → Prop} {v : Int32} {ps : List (Int32 × Nat)} {po : Nat} {L : Lc} {st : List AV} {σ : Sg} {J : Nat → Lc → List AV → Sg → Prop} {N : Lc → List AV → Sg → Prop} (hm : mid < nM) {n : Fin 4} (he : (mD mid)[i]? = some (pc, .istore_n n, a, b, v, ps, po)) (hJ : ∀ t L st σ, J t L st σ → G sd mid P t L st σ) (hN : ∀ L st σ, N L st σ → (∃ e', (mD mid)[i + 1]? = some e') ∧ G sd mid P (i + 1) L st σ) (h : stepw sd (mH mid) (mR mid) P J N a b v ps L st σ (.istore_n n)) : G sd mid P i L st σ := by
  obtain ⟨hp, ha, h1, h2⟩ := ent_facts hm he
  obtain ⟨hdg, hnx⟩ := h1 rfl
  unfold stepw at h
  dsimp only at h
  split at h
  next x st' =>
    obtain ⟨x, rfl, h⟩ := h
    obtain ⟨hs1, hs2, h⟩ := stS_spec h
    refine fallG hp hnx (hN _ _ _ h) (fun p l e s m args below meth c H locs ls D cs as dd Q hC hW hl kk => lv_istore_n hC.1 hC.2.1 hdg rfl hl.1 (by rw [← hl.2]; exact hs2) rfl (fun ls2 hl2 => kk ls2 (hasL_set hl hs1 hl2)))
  next => exact h.elim
theorem sn_astore {sd : Bool} {mid i pc a b : Nat} {P : Option AV → Sg → Prop} {v : Int32} {ps : List (Int32 × Nat)} {po : Nat} {L : Lc} {st : List AV} {σ : Sg} {J : Nat → Lc → List AV → Sg → Prop} {N : Lc → List AV → Sg → Prop} (hm : mid < nM) {n : Nat} (he : (mD mid)[i]? = some (pc, .astore n, a, b, v, ps, po)) (hJ : ∀ t L st σ, J t L st σ → G sd mid P t L st σ) (hN : ∀ L st σ, N L st σ → (∃ e', (mD mid)[i + 1]? = some e') ∧ G sd mid P (i + 1) L st σ) (h : stepw sd (mH mid) (mR mid) P J N a b v ps L st σ (.astore n)) : G sd mid P i L st σ := by
  obtain ⟨hp, ha, h1, h2⟩ := ent_facts hm he
  obtain ⟨hdg, hnx⟩ := h1 rfl
  unfold stepw at h
  dsimp only at h
  split at h
  next x st' =>
    obtain ⟨hs1, hs2, h⟩ := stS_spec h
    refine fallG hp hnx (hN _ _ _ h) (fun p l e s m args below meth c H locs ls D cs as dd Q hC hW hl kk => lv_astore hC.1 hC.2.1 hdg hl.1 (by rw [← hl.2]; exact hs2) rfl (fun ls2 hl2 => kk ls2 (hasL_set hl hs1 hl2)))
  next => exact h.elim
theorem sn_astore_n {sd : Bool} {mid i pc a b : Nat} {P : Option AV → Sg → Prop} {v : Int32} {ps : List (Int32 × Nat)} {po : Nat} {L : Lc} {st : List AV} {σ : Sg} {J : Nat → Lc → List AV → Sg → Prop} {N : Lc → List AV → Sg → Prop} (hm : mid < nM) {n : Fin 4} (he : (mD mid)[i]? = some (pc, .astore_n n, a, b, v, ps, po)) (hJ : ∀ t L st σ, J t L st σ → G sd mid P t L st σ) (hN : ∀ L st σ, N L st σ → (∃ e', (mD mid)[i + 1]? = some e') ∧ G sd mid P (i + 1) L st σ) (h : stepw sd (mH mid) (mR mid) P J N a b v ps L st σ (.astore_n n)) : G sd mid P i L st σ := by
  obtain ⟨hp, ha, h1, h2⟩ := ent_facts hm he
  obtain ⟨hdg, hnx⟩ := h1 rfl
  unfold stepw at h
  dsimp only at h
  split at h
  next x st' =>
    obtain ⟨hs1, hs2, h⟩ := stS_spec h
    refine fallG hp hnx (hN _ _ _ h) (fun p l e s m args below meth c H locs ls D cs as dd Q hC hW hl kk => lv_astore_n hC.1 hC.2.1 hdg rfl hl.1 (by rw [← hl.2]; exact hs2) rfl (fun ls2 hl2 => kk ls2 (hasL_set hl hs1 hl2)))
  next => exact h.elim
theorem sn_lstore {sd : Bool} {mid i pc a b : Nat} {P : Option AV → Sg → Prop} {v : Int32} {ps : List (Int32 × Nat)} {po : Nat} {L : Lc} {st : List AV} {σ : Sg} {J : Nat → Lc → List AV → Sg → Prop} {N : Lc → List AV → Sg → Prop} (hm : mid < nM) {n : Nat} (he : (mD mid)[i]? = some (pc, .lstore n, a, b, v, ps, po)) (hJ : ∀ t L st σ, J t L st σ → G sd mid P t L st σ) (hN : ∀ L st σ, N L st σ → (∃ e', (mD mid)[i + 1]? = some e') ∧ G sd mid P (i + 1) L st σ) (h : stepw sd (mH mid) (mR mid) P J N a b v ps L st σ (.lstore n)) : G sd mid P i L st σ := by
  obtain ⟨hp, ha, h1, h2⟩ := ent_facts hm he
  obtain ⟨hdg, hnx⟩ := h1 rfl
  unfold stepw at h
  dsimp only at h
  split at h
  next x st' =>
    obtain ⟨hs1, hs2, h⟩ := stS2_spec h
    refine fallG hp hnx (hN _ _ _ h) (fun p l e s m args below meth c H locs ls D cs as dd Q hC hW hl kk => lv_lstore hC.1 hC.2.1 hdg hl.1 (by rw [← hl.2]; exact hs2) rfl (fun ls2 hl2 => kk ls2 (hasL_set2 hl hs1 hl2)))
  next => exact h.elim
theorem sn_lstore_n {sd : Bool} {mid i pc a b : Nat} {P : Option AV → Sg → Prop} {v : Int32} {ps : List (Int32 × Nat)} {po : Nat} {L : Lc} {st : List AV} {σ : Sg} {J : Nat → Lc → List AV → Sg → Prop} {N : Lc → List AV → Sg → Prop} (hm : mid < nM) {n : Fin 4} (he : (mD mid)[i]? = some (pc, .lstore_n n, a, b, v, ps, po)) (hJ : ∀ t L st σ, J t L st σ → G sd mid P t L st σ) (hN : ∀ L st σ, N L st σ → (∃ e', (mD mid)[i + 1]? = some e') ∧ G sd mid P (i + 1) L st σ) (h : stepw sd (mH mid) (mR mid) P J N a b v ps L st σ (.lstore_n n)) : G sd mid P i L st σ := by
  obtain ⟨hp, ha, h1, h2⟩ := ent_facts hm he
  obtain ⟨hdg, hnx⟩ := h1 rfl
  unfold stepw at h
  dsimp only at h
  split at h
  next x st' =>
    obtain ⟨hs1, hs2, h⟩ := stS2_spec h
    refine fallG hp hnx (hN _ _ _ h) (fun p l e s m args below meth c H locs ls D cs as dd Q hC hW hl kk => lv_lstore_n hC.1 hC.2.1 hdg rfl hl.1 (by rw [← hl.2]; exact hs2) rfl (fun ls2 hl2 => kk ls2 (hasL_set2 hl hs1 hl2)))
  next => exact h.elim
theorem sn_iinc {sd : Bool} {mid i pc a b : Nat} {P : Option AV → Sg → Prop} {v : Int32} {ps : List (Int32 × Nat)} {po : Nat} {L : Lc} {st : List AV} {σ : Sg} {J : Nat → Lc → List AV → Sg → Prop} {N : Lc → List AV → Sg → Prop} (hm : mid < nM) {n : Nat} {q : Int} (he : (mD mid)[i]? = some (pc, .iinc n q, a, b, v, ps, po)) (hJ : ∀ t L st σ, J t L st σ → G sd mid P t L st σ) (hN : ∀ L st σ, N L st σ → (∃ e', (mD mid)[i + 1]? = some e') ∧ G sd mid P (i + 1) L st σ) (h : stepw sd (mH mid) (mR mid) P J N a b v ps L st σ (.iinc n q)) : G sd mid P i L st σ := by
  obtain ⟨hp, ha, h1, h2⟩ := ent_facts hm he
  obtain ⟨hdg, hnx⟩ := h1 rfl
  unfold stepw at h
  dsimp only at h
  split at h
  next x hx =>
    obtain ⟨y, rfl, h⟩ := h
    obtain ⟨hs1, hs2, h⟩ := stS_spec h
    refine fallG hp hnx (hN _ _ _ h) (fun p l e s m args below meth c H locs ls D cs as dd Q hC hW hl kk => ?_)
    obtain ⟨k9, hk9⟩ := List.getElem?_of_mem (lvOf_mem (as := as).mpr ⟨_, hx, rfl⟩)
    exact lv_iinc (v := x + v) hC.1 hC.2.1 hdg hl.1 hk9 (by rw [of_decide_eq_true ha]) (by rw [← hl.2]; exact hs2) rfl (fun ls2 hl2 => kk ls2 (hasL_set hl hs1 hl2))
  next => exact h.elim
theorem sn_iadd {sd : Bool} {mid i pc a b : Nat} {P : Option AV → Sg → Prop} {v : Int32} {ps : List (Int32 × Nat)} {po : Nat} {L : Lc} {st : List AV} {σ : Sg} {J : Nat → Lc → List AV → Sg → Prop} {N : Lc → List AV → Sg → Prop} (hm : mid < nM) (he : (mD mid)[i]? = some (pc, .iadd, a, b, v, ps, po)) (hJ : ∀ t L st σ, J t L st σ → G sd mid P t L st σ) (hN : ∀ L st σ, N L st σ → (∃ e', (mD mid)[i + 1]? = some e') ∧ G sd mid P (i + 1) L st σ) (h : stepw sd (mH mid) (mR mid) P J N a b v ps L st σ (.iadd)) : G sd mid P i L st σ := by
  obtain ⟨hp, ha, h1, h2⟩ := ent_facts hm he
  obtain ⟨hdg, hnx⟩ := h1 rfl
  unfold stepw at h
  dsimp only at h
  split at h
  next y x st' => refine fallG hp hnx (hN _ _ _ h) (fun p l e s m args below meth c H locs ls D cs as dd Q hC hW hl kk => lv_iadd hC.1 hC.2.1 hdg (kk ls hl))
  next => exact h.elim
theorem sn_isub {sd : Bool} {mid i pc a b : Nat} {P : Option AV → Sg → Prop} {v : Int32} {ps : List (Int32 × Nat)} {po : Nat} {L : Lc} {st : List AV} {σ : Sg} {J : Nat → Lc → List AV → Sg → Prop} {N : Lc → List AV → Sg → Prop} (hm : mid < nM) (he : (mD mid)[i]? = some (pc, .isub, a, b, v, ps, po)) (hJ : ∀ t L st σ, J t L st σ → G sd mid P t L st σ) (hN : ∀ L st σ, N L st σ → (∃ e', (mD mid)[i + 1]? = some e') ∧ G sd mid P (i + 1) L st σ) (h : stepw sd (mH mid) (mR mid) P J N a b v ps L st σ (.isub)) : G sd mid P i L st σ := by
  obtain ⟨hp, ha, h1, h2⟩ := ent_facts hm he
  obtain ⟨hdg, hnx⟩ := h1 rfl
  unfold stepw at h
  dsimp only at h
  split at h
  next y x st' => refine fallG hp hnx (hN _ _ _ h) (fun p l e s m args below meth c H locs ls D cs as dd Q hC hW hl kk => lv_isub hC.1 hC.2.1 hdg (kk ls hl))
  next => exact h.elim
theorem sn_imul {sd : Bool} {mid i pc a b : Nat} {P : Option AV → Sg → Prop} {v : Int32} {ps : List (Int32 × Nat)} {po : Nat} {L : Lc} {st : List AV} {σ : Sg} {J : Nat → Lc → List AV → Sg → Prop} {N : Lc → List AV → Sg → Prop} (hm : mid < nM) (he : (mD mid)[i]? = some (pc, .imul, a, b, v, ps, po)) (hJ : ∀ t L st σ, J t L st σ → G sd mid P t L st σ) (hN : ∀ L st σ, N L st σ → (∃ e', (mD mid)[i + 1]? = some e') ∧ G sd mid P (i + 1) L st σ) (h : stepw sd (mH mid) (mR mid) P J N a b v ps L st σ (.imul)) : G sd mid P i L st σ := by
  obtain ⟨hp, ha, h1, h2⟩ := ent_facts hm he
  obtain ⟨hdg, hnx⟩ := h1 rfl
  unfold stepw at h
  dsimp only at h
  split at h
  next y x st' => refine fallG hp hnx (hN _ _ _ h) (fun p l e s m args below meth c H locs ls D cs as dd Q hC hW hl kk => lv_imul hC.1 hC.2.1 hdg (kk ls hl))
  next => exact h.elim
theorem sn_iand {sd : Bool} {mid i pc a b : Nat} {P : Option AV → Sg → Prop} {v : Int32} {ps : List (Int32 × Nat)} {po : Nat} {L : Lc} {st : List AV} {σ : Sg} {J : Nat → Lc → List AV → Sg → Prop} {N : Lc → List AV → Sg → Prop} (hm : mid < nM) (he : (mD mid)[i]? = some (pc, .iand, a, b, v, ps, po)) (hJ : ∀ t L st σ, J t L st σ → G sd mid P t L st σ) (hN : ∀ L st σ, N L st σ → (∃ e', (mD mid)[i + 1]? = some e') ∧ G sd mid P (i + 1) L st σ) (h : stepw sd (mH mid) (mR mid) P J N a b v ps L st σ (.iand)) : G sd mid P i L st σ := by
  obtain ⟨hp, ha, h1, h2⟩ := ent_facts hm he
  obtain ⟨hdg, hnx⟩ := h1 rfl
  unfold stepw at h
  dsimp only at h
  split at h
  next y x st' => refine fallG hp hnx (hN _ _ _ h) (fun p l e s m args below meth c H locs ls D cs as dd Q hC hW hl kk => lv_iand hC.1 hC.2.1 hdg (kk ls hl))
  next => exact h.elim
theorem sn_ior {sd : Bool} {mid i pc a b : Nat} {P : Option AV → Sg → Prop} {v : Int32} {ps : List (Int32 × Nat)} {po : Nat} {L : Lc} {st : List AV} {σ : Sg} {J : Nat → Lc → List AV → Sg → Prop} {N : Lc → List AV → Sg → Prop} (hm : mid < nM) (he : (mD mid)[i]? = some (pc, .ior, a, b, v, ps, po)) (hJ : ∀ t L st σ, J t L st σ → G sd mid P t L st σ) (hN : ∀ L st σ, N L st σ → (∃ e', (mD mid)[i + 1]? = some e') ∧ G sd mid P (i + 1) L st σ) (h : stepw sd (mH mid) (mR mid) P J N a b v ps L st σ (.ior)) : G sd mid P i L st σ := by
  obtain ⟨hp, ha, h1, h2⟩ := ent_facts hm he
  obtain ⟨hdg, hnx⟩ := h1 rfl
  unfold stepw at h
  dsimp only at h
  split at h
  next y x st' => refine fallG hp hnx (hN _ _ _ h) (fun p l e s m args below meth c H locs ls D cs as dd Q hC hW hl kk => lv_ior hC.1 hC.2.1 hdg (kk ls hl))
  next => exact h.elim
theorem sn_ishl {sd : Bool} {mid i pc a b : Nat} {P : Option AV → Sg → Prop} {v : Int32} {ps : List (Int32 × Nat)} {po : Nat} {L : Lc} {st : List AV} {σ : Sg} {J : Nat → Lc → List AV → Sg → Prop} {N : Lc → List AV → Sg → Prop} (hm : mid < nM) (he : (mD mid)[i]? = some (pc, .ishl, a, b, v, ps, po)) (hJ : ∀ t L st σ, J t L st σ → G sd mid P t L st σ) (hN : ∀ L st σ, N L st σ → (∃ e', (mD mid)[i + 1]? = some e') ∧ G sd mid P (i + 1) L st σ) (h : stepw sd (mH mid) (mR mid) P J N a b v ps L st σ (.ishl)) : G sd mid P i L st σ := by
  obtain ⟨hp, ha, h1, h2⟩ := ent_facts hm he
  obtain ⟨hdg, hnx⟩ := h1 rfl
  unfold stepw at h
  dsimp only at h
  split at h
  next y x st' => refine fallG hp hnx (hN _ _ _ h) (fun p l e s m args below meth c H locs ls D cs as dd Q hC hW hl kk => lv_ishl hC.1 hC.2.1 hdg (kk ls hl))
  next => exact h.elim
theorem sn_ishr {sd : Bool} {mid i pc a b : Nat} {P : Option AV → Sg → Prop} {v : Int32} {ps : List (Int32 × Nat)} {po : Nat} {L : Lc} {st : List AV} {σ : Sg} {J : Nat → Lc → List AV → Sg → Prop} {N : Lc → List AV → Sg → Prop} (hm : mid < nM) (he : (mD mid)[i]? = some (pc, .ishr, a, b, v, ps, po)) (hJ : ∀ t L st σ, J t L st σ → G sd mid P t L st σ) (hN : ∀ L st σ, N L st σ → (∃ e', (mD mid)[i + 1]? = some e') ∧ G sd mid P (i + 1) L st σ) (h : stepw sd (mH mid) (mR mid) P J N a b v ps L st σ (.ishr)) : G sd mid P i L st σ := by
  obtain ⟨hp, ha, h1, h2⟩ := ent_facts hm he
  obtain ⟨hdg, hnx⟩ := h1 rfl
  unfold stepw at h
  dsimp only at h
  split at h
  next y x st' => refine fallG hp hnx (hN _ _ _ h) (fun p l e s m args below meth c H locs ls D cs as dd Q hC hW hl kk => lv_ishr hC.1 hC.2.1 hdg (kk ls hl))
  next => exact h.elim
theorem sn_iushr {sd : Bool} {mid i pc a b : Nat} {P : Option AV → Sg → Prop} {v : Int32} {ps : List (Int32 × Nat)} {po : Nat} {L : Lc} {st : List AV} {σ : Sg} {J : Nat → Lc → List AV → Sg → Prop} {N : Lc → List AV → Sg → Prop} (hm : mid < nM) (he : (mD mid)[i]? = some (pc, .iushr, a, b, v, ps, po)) (hJ : ∀ t L st σ, J t L st σ → G sd mid P t L st σ) (hN : ∀ L st σ, N L st σ → (∃ e', (mD mid)[i + 1]? = some e') ∧ G sd mid P (i + 1) L st σ) (h : stepw sd (mH mid) (mR mid) P J N a b v ps L st σ (.iushr)) : G sd mid P i L st σ := by
  obtain ⟨hp, ha, h1, h2⟩ := ent_facts hm he
  obtain ⟨hdg, hnx⟩ := h1 rfl
  unfold stepw at h
  dsimp only at h
  split at h
  next y x st' => refine fallG hp hnx (hN _ _ _ h) (fun p l e s m args below meth c H locs ls D cs as dd Q hC hW hl kk => lv_iushr hC.1 hC.2.1 hdg rfl (kk ls hl))
  next => exact h.elim
theorem sn_ladd {sd : Bool} {mid i pc a b : Nat} {P : Option AV → Sg → Prop} {v : Int32} {ps : List (Int32 × Nat)} {po : Nat} {L : Lc} {st : List AV} {σ : Sg} {J : Nat → Lc → List AV → Sg → Prop} {N : Lc → List AV → Sg → Prop} (hm : mid < nM) (he : (mD mid)[i]? = some (pc, .ladd, a, b, v, ps, po)) (hJ : ∀ t L st σ, J t L st σ → G sd mid P t L st σ) (hN : ∀ L st σ, N L st σ → (∃ e', (mD mid)[i + 1]? = some e') ∧ G sd mid P (i + 1) L st σ) (h : stepw sd (mH mid) (mR mid) P J N a b v ps L st σ (.ladd)) : G sd mid P i L st σ := by
  obtain ⟨hp, ha, h1, h2⟩ := ent_facts hm he
  obtain ⟨hdg, hnx⟩ := h1 rfl
  unfold stepw at h
  dsimp only at h
  split at h
  next y x st' => refine fallG hp hnx (hN _ _ _ h) (fun p l e s m args below meth c H locs ls D cs as dd Q hC hW hl kk => lv_ladd hC.1 hC.2.1 hdg (kk ls hl))
  next => exact h.elim
theorem sn_lmul {sd : Bool} {mid i pc a b : Nat} {P : Option AV → Sg → Prop} {v : Int32} {ps : List (Int32 × Nat)} {po : Nat} {L : Lc} {st : List AV} {σ : Sg} {J : Nat → Lc → List AV → Sg → Prop} {N : Lc → List AV → Sg → Prop} (hm : mid < nM) (he : (mD mid)[i]? = some (pc, .lmul, a, b, v, ps, po)) (hJ : ∀ t L st σ, J t L st σ → G sd mid P t L st σ) (hN : ∀ L st σ, N L st σ → (∃ e', (mD mid)[i + 1]? = some e') ∧ G sd mid P (i + 1) L st σ) (h : stepw sd (mH mid) (mR mid) P J N a b v ps L st σ (.lmul)) : G sd mid P i L st σ := by
  obtain ⟨hp, ha, h1, h2⟩ := ent_facts hm he
  obtain ⟨hdg, hnx⟩ := h1 rfl
  unfold stepw at h
  dsimp only at h
  split at h
  next y x st' => refine fallG hp hnx (hN _ _ _ h) (fun p l e s m args below meth c H locs ls D cs as dd Q hC hW hl kk => lv_lmul hC.1 hC.2.1 hdg (kk ls hl))
  next => exact h.elim
theorem sn_idiv {sd : Bool} {mid i pc a b : Nat} {P : Option AV → Sg → Prop} {v : Int32} {ps : List (Int32 × Nat)} {po : Nat} {L : Lc} {st : List AV} {σ : Sg} {J : Nat → Lc → List AV → Sg → Prop} {N : Lc → List AV → Sg → Prop} (hm : mid < nM) (he : (mD mid)[i]? = some (pc, .idiv, a, b, v, ps, po)) (hJ : ∀ t L st σ, J t L st σ → G sd mid P t L st σ) (hN : ∀ L st σ, N L st σ → (∃ e', (mD mid)[i + 1]? = some e') ∧ G sd mid P (i + 1) L st σ) (h : stepw sd (mH mid) (mR mid) P J N a b v ps L st σ (.idiv)) : G sd mid P i L st σ := by
  obtain ⟨hp, ha, h1, h2⟩ := ent_facts hm he
  obtain ⟨hdg, hnx⟩ := h1 rfl
  unfold stepw at h
  dsimp only at h
  split at h
  next y x st' =>
    obtain ⟨hy, h⟩ := h
    rw [nI_0] at hy
    refine fallG hp hnx (hN _ _ _ h) (fun p l e s m args below meth c H locs ls D cs as dd Q hC hW hl kk => lv_idiv hC.1 hC.2.1 hdg hy (kk ls hl))
  next => exact h.elim
theorem sn_irem {sd : Bool} {mid i pc a b : Nat} {P : Option AV → Sg → Prop} {v : Int32} {ps : List (Int32 × Nat)} {po : Nat} {L : Lc} {st : List AV} {σ : Sg} {J : Nat → Lc → List AV → Sg → Prop} {N : Lc → List AV → Sg → Prop} (hm : mid < nM) (he : (mD mid)[i]? = some (pc, .irem, a, b, v, ps, po)) (hJ : ∀ t L st σ, J t L st σ → G sd mid P t L st σ) (hN : ∀ L st σ, N L st σ → (∃ e', (mD mid)[i + 1]? = some e') ∧ G sd mid P (i + 1) L st σ) (h : stepw sd (mH mid) (mR mid) P J N a b v ps L st σ (.irem)) : G sd mid P i L st σ := by
  obtain ⟨hp, ha, h1, h2⟩ := ent_facts hm he
  obtain ⟨hdg, hnx⟩ := h1 rfl
  unfold stepw at h
  dsimp only at h
  split at h
  next y x st' =>
    obtain ⟨hy, h⟩ := h
    rw [nI_0] at hy
    refine fallG hp hnx (hN _ _ _ h) (fun p l e s m args below meth c H locs ls D cs as dd Q hC hW hl kk => lv_irem hC.1 hC.2.1 hdg hy (kk ls hl))
  next => exact h.elim
theorem sn_ineg {sd : Bool} {mid i pc a b : Nat} {P : Option AV → Sg → Prop} {v : Int32} {ps : List (Int32 × Nat)} {po : Nat} {L : Lc} {st : List AV} {σ : Sg} {J : Nat → Lc → List AV → Sg → Prop} {N : Lc → List AV → Sg → Prop} (hm : mid < nM) (he : (mD mid)[i]? = some (pc, .ineg, a, b, v, ps, po)) (hJ : ∀ t L st σ, J t L st σ → G sd mid P t L st σ) (hN : ∀ L st σ, N L st σ → (∃ e', (mD mid)[i + 1]? = some e') ∧ G sd mid P (i + 1) L st σ) (h : stepw sd (mH mid) (mR mid) P J N a b v ps L st σ (.ineg)) : G sd mid P i L st σ := by
  obtain ⟨hp, ha, h1, h2⟩ := ent_facts hm he
  obtain ⟨hdg, hnx⟩ := h1 rfl
  unfold stepw at h
  dsimp only at h
  split at h
  next x st' => refine fallG hp hnx (hN _ _ _ h) (fun p l e s m args below meth c H locs ls D cs as dd Q hC hW hl kk => lv_ineg hC.1 hC.2.1 hdg (kk ls hl))
  next => exact h.elim
theorem sn_i2l {sd : Bool} {mid i pc a b : Nat} {P : Option AV → Sg → Prop} {v : Int32} {ps : List (Int32 × Nat)} {po : Nat} {L : Lc} {st : List AV} {σ : Sg} {J : Nat → Lc → List AV → Sg → Prop} {N : Lc → List AV → Sg → Prop} (hm : mid < nM) (he : (mD mid)[i]? = some (pc, .i2l, a, b, v, ps, po)) (hJ : ∀ t L st σ, J t L st σ → G sd mid P t L st σ) (hN : ∀ L st σ, N L st σ → (∃ e', (mD mid)[i + 1]? = some e') ∧ G sd mid P (i + 1) L st σ) (h : stepw sd (mH mid) (mR mid) P J N a b v ps L st σ (.i2l)) : G sd mid P i L st σ := by
  obtain ⟨hp, ha, h1, h2⟩ := ent_facts hm he
  obtain ⟨hdg, hnx⟩ := h1 rfl
  unfold stepw at h
  dsimp only at h
  split at h
  next x st' => refine fallG hp hnx (hN _ _ _ h) (fun p l e s m args below meth c H locs ls D cs as dd Q hC hW hl kk => lv_i2l hC.1 hC.2.1 hdg rfl (kk ls hl))
  next => exact h.elim
theorem sn_dup {sd : Bool} {mid i pc a b : Nat} {P : Option AV → Sg → Prop} {v : Int32} {ps : List (Int32 × Nat)} {po : Nat} {L : Lc} {st : List AV} {σ : Sg} {J : Nat → Lc → List AV → Sg → Prop} {N : Lc → List AV → Sg → Prop} (hm : mid < nM) (he : (mD mid)[i]? = some (pc, .dup, a, b, v, ps, po)) (hJ : ∀ t L st σ, J t L st σ → G sd mid P t L st σ) (hN : ∀ L st σ, N L st σ → (∃ e', (mD mid)[i + 1]? = some e') ∧ G sd mid P (i + 1) L st σ) (h : stepw sd (mH mid) (mR mid) P J N a b v ps L st σ (.dup)) : G sd mid P i L st σ := by
  obtain ⟨hp, ha, h1, h2⟩ := ent_facts hm he
  obtain ⟨hdg, hnx⟩ := h1 rfl
  unfold stepw at h
  dsimp only at h
  split at h
  next x st' => refine fallG hp hnx (hN _ _ _ h) (fun p l e s m args below meth c H locs ls D cs as dd Q hC hW hl kk => lv_dup hC.1 hC.2.1 hdg rfl (kk ls hl))
  next x st' => refine fallG hp hnx (hN _ _ _ h) (fun p l e s m args below meth c H locs ls D cs as dd Q hC hW hl kk => lv_dup hC.1 hC.2.1 hdg rfl (kk ls hl))
  next => exact h.elim
theorem sn_dup2 {sd : Bool} {mid i pc a b : Nat} {P : Option AV → Sg → Prop} {v : Int32} {ps : List (Int32 × Nat)} {po : Nat} {L : Lc} {st : List AV} {σ : Sg} {J : Nat → Lc → List AV → Sg → Prop} {N : Lc → List AV → Sg → Prop} (hm : mid < nM) (he : (mD mid)[i]? = some (pc, .dup2, a, b, v, ps, po)) (hJ : ∀ t L st σ, J t L st σ → G sd mid P t L st σ) (hN : ∀ L st σ, N L st σ → (∃ e', (mD mid)[i + 1]? = some e') ∧ G sd mid P (i + 1) L st σ) (h : stepw sd (mH mid) (mR mid) P J N a b v ps L st σ (.dup2)) : G sd mid P i L st σ := by
  obtain ⟨hp, ha, h1, h2⟩ := ent_facts hm he
  obtain ⟨hdg, hnx⟩ := h1 rfl
  unfold stepw at h
  dsimp only at h
  split at h
  next x y st' => refine fallG hp hnx (hN _ _ _ h) (fun p l e s m args below meth c H locs ls D cs as dd Q hC hW hl kk => lv_dup2_11 hC.1 hC.2.1 hdg rfl rfl (kk ls hl))
  next => exact h.elim
theorem jmpG {sd : Bool} {mid i t : Nat} {P : Option AV → Sg → Prop} {L : Lc} {st st2 : List AV} {σ : Sg} (k : G sd mid P t L st2 σ)
    (row : ∀ (p : Program) (l : Launch) (e : Env) (s : State) (m : MethodId) (args : Array Value) (below : List Frame) (meth : Method) (c : Code) (H : Heap) (locs : List Loc) (ls : Array Slot) (as : Ad) (d : Nat) (Q : State → Prop), Cx mid p s m args meth c → W p l e (rmD d) s m args below meth c H locs 0 0 Q (F0 m (pcM mid t) ls (st2.map (cv as))) → W p l e (rmD d) s m args below meth c H locs 0 0 Q (F0 m (pcM mid i) ls (st.map (cv as)))) : G sd mid P i L st σ := by
  refine G_of (fun r σ' hG => ?_) k
  intro p l e s m args below meth c H locs ls D cs as d hd hC hW hS hl
  exact row p l e s m args below meth c H locs ls as d _ hC (hG p l e s m args below meth c H locs ls D cs as d hd hC hW hS hl)
theorem sn_goto {sd : Bool} {mid i pc a b : Nat} {P : Option AV → Sg → Prop} {v : Int32} {ps : List (Int32 × Nat)} {po : Nat} {L : Lc} {st : List AV} {σ : Sg} {J : Nat → Lc → List AV → Sg → Prop} {N : Lc → List AV → Sg → Prop} (hm : mid < nM) {q : Int} (he : (mD mid)[i]? = some (pc, .goto q, a, b, v, ps, po)) (hJ : ∀ t L st σ, J t L st σ → G sd mid P t L st σ) (hN : ∀ L st σ, N L st σ → (∃ e', (mD mid)[i + 1]? = some e') ∧ G sd mid P (i + 1) L st σ) (h : stepw sd (mH mid) (mR mid) P J N a b v ps L st σ (.goto q)) : G sd mid P i L st σ := by
  obtain ⟨hp, ha, h1, h2⟩ := ent_facts hm he
  obtain ⟨hdg, hnx⟩ := h1 rfl
  refine jmpG (hJ a L st σ h) (fun p l e s m args below meth c H locs ls as d Q hC k => by rw [hp]; exact lv_goto hC.1 hC.2.1 hdg (tg_spec ha) k)
theorem sn_if_icmp {sd : Bool} {mid i pc a b : Nat} {P : Option AV → Sg → Prop} {v : Int32} {ps : List (Int32 × Nat)} {po : Nat} {L : Lc} {st : List AV} {σ : Sg} {J : Nat → Lc → List AV → Sg → Prop} {N : Lc → List AV → Sg → Prop} (hm : mid < nM) {cnd : Jvm.ClassFile.Cond} {q : Int} (he : (mD mid)[i]? = some (pc, .if_icmp cnd q, a, b, v, ps, po)) (hJ : ∀ t L st σ, J t L st σ → G sd mid P t L st σ) (hN : ∀ L st σ, N L st σ → (∃ e', (mD mid)[i + 1]? = some e') ∧ G sd mid P (i + 1) L st σ) (h : stepw sd (mH mid) (mR mid) P J N a b v ps L st σ (.if_icmp cnd q)) : G sd mid P i L st σ := by
  obtain ⟨hp, ha, h1, h2⟩ := ent_facts hm he
  obtain ⟨hdg, hnx⟩ := h1 rfl
  unfold stepw at h
  dsimp only at h
  split at h
  next y x st' =>
    cases cnd with
    | eq =>
      obtain ⟨ht, hf⟩ := h
      by_cases hc : x = y
      · refine jmpG (hJ _ _ _ _ (ht hc)) (fun p l e s m args below meth c H locs ls as d Q hC k => by rw [hp]; exact lv_icmp_eq hC.1 hC.2.1 hdg (tg_spec ha) (fun _ => k) (fun q => absurd hc q))
      · obtain ⟨⟨e', he'⟩, k⟩ := hN _ _ _ (hf hc)
        refine jmpG k (fun p l e s m args below meth c H locs ls as d Q hC k => by
          rw [hnx e' he'] at k
          rw [hp]
          exact lv_icmp_eq hC.1 hC.2.1 hdg (tg_spec ha) (fun q => absurd q hc) (fun _ => k))
    | ne =>
      obtain ⟨ht, hf⟩ := h
      by_cases hc : x = y
      · obtain ⟨⟨e', he'⟩, k⟩ := hN _ _ _ (hf hc)
        refine jmpG k (fun p l e s m args below meth c H locs ls as d Q hC k => by
          rw [hnx e' he'] at k
          rw [hp]
          exact lv_icmp_ne hC.1 hC.2.1 hdg (tg_spec ha) (fun q => absurd hc q) (fun _ => k))
      · refine jmpG (hJ _ _ _ _ (ht hc)) (fun p l e s m args below meth c H locs ls as d Q hC k => by rw [hp]; exact lv_icmp_ne hC.1 hC.2.1 hdg (tg_spec ha) (fun _ => k) (fun q => absurd q hc))
    | lt =>
      obtain ⟨ht, hf⟩ := h
      by_cases hc : x < y
      · refine jmpG (hJ _ _ _ _ (ht hc)) (fun p l e s m args below meth c H locs ls as d Q hC k => by rw [hp]; exact lv_icmp_lt hC.1 hC.2.1 hdg (tg_spec ha) (fun _ => k) (fun q => absurd hc q))
      · obtain ⟨⟨e', he'⟩, k⟩ := hN _ _ _ (hf hc)
        refine jmpG k (fun p l e s m args below meth c H locs ls as d Q hC k => by
          rw [hnx e' he'] at k
          rw [hp]
          exact lv_icmp_lt hC.1 hC.2.1 hdg (tg_spec ha) (fun q => absurd q hc) (fun _ => k))
    | ge =>
      obtain ⟨ht, hf⟩ := h
      by_cases hc : y ≤ x
      · refine jmpG (hJ _ _ _ _ (ht hc)) (fun p l e s m args below meth c H locs ls as d Q hC k => by rw [hp]; exact lv_icmp_ge hC.1 hC.2.1 hdg (tg_spec ha) (fun _ => k) (fun q => absurd hc q))
      · obtain ⟨⟨e', he'⟩, k⟩ := hN _ _ _ (hf hc)
        refine jmpG k (fun p l e s m args below meth c H locs ls as d Q hC k => by
          rw [hnx e' he'] at k
          rw [hp]
          exact lv_icmp_ge hC.1 hC.2.1 hdg (tg_spec ha) (fun q => absurd q hc) (fun _ => k))
    | gt =>
      obtain ⟨ht, hf⟩ := h
      by_cases hc : y < x
      · refine jmpG (hJ _ _ _ _ (ht hc)) (fun p l e s m args below meth c H locs ls as d Q hC k => by rw [hp]; exact lv_icmp_gt hC.1 hC.2.1 hdg (tg_spec ha) (fun _ => k) (fun q => absurd hc q))
      · obtain ⟨⟨e', he'⟩, k⟩ := hN _ _ _ (hf hc)
        refine jmpG k (fun p l e s m args below meth c H locs ls as d Q hC k => by
          rw [hnx e' he'] at k
          rw [hp]
          exact lv_icmp_gt hC.1 hC.2.1 hdg (tg_spec ha) (fun q => absurd q hc) (fun _ => k))
    | le =>
      obtain ⟨ht, hf⟩ := h
      by_cases hc : x ≤ y
      · refine jmpG (hJ _ _ _ _ (ht hc)) (fun p l e s m args below meth c H locs ls as d Q hC k => by rw [hp]; exact lv_icmp_le hC.1 hC.2.1 hdg (tg_spec ha) (fun _ => k) (fun q => absurd hc q))
      · obtain ⟨⟨e', he'⟩, k⟩ := hN _ _ _ (hf hc)
        refine jmpG k (fun p l e s m args below meth c H locs ls as d Q hC k => by
          rw [hnx e' he'] at k
          rw [hp]
          exact lv_icmp_le hC.1 hC.2.1 hdg (tg_spec ha) (fun q => absurd q hc) (fun _ => k))
  next => exact h.elim
theorem sn_ifCond {sd : Bool} {mid i pc a b : Nat} {P : Option AV → Sg → Prop} {v : Int32} {ps : List (Int32 × Nat)} {po : Nat} {L : Lc} {st : List AV} {σ : Sg} {J : Nat → Lc → List AV → Sg → Prop} {N : Lc → List AV → Sg → Prop} (hm : mid < nM) {cnd : Jvm.ClassFile.Cond} {q : Int} (he : (mD mid)[i]? = some (pc, .ifCond cnd q, a, b, v, ps, po)) (hJ : ∀ t L st σ, J t L st σ → G sd mid P t L st σ) (hN : ∀ L st σ, N L st σ → (∃ e', (mD mid)[i + 1]? = some e') ∧ G sd mid P (i + 1) L st σ) (h : stepw sd (mH mid) (mR mid) P J N a b v ps L st σ (.ifCond cnd q)) : G sd mid P i L st σ := by
  obtain ⟨hp, ha, h1, h2⟩ := ent_facts hm he
  obtain ⟨hdg, hnx⟩ := h1 rfl
  unfold stepw at h
  dsimp only at h
  split at h
  next x st' =>
    rw [nI_0] at h
    cases cnd with
    | eq =>
      obtain ⟨ht, hf⟩ := h
      by_cases hc : x = 0
      · refine jmpG (hJ _ _ _ _ (ht hc)) (fun p l e s m args below meth c H locs ls as d Q hC k => by rw [hp]; exact lv_if_eq hC.1 hC.2.1 hdg (tg_spec ha) (fun _ => k) (fun q => absurd hc q))
      · obtain ⟨⟨e', he'⟩, k⟩ := hN _ _ _ (hf hc)
        refine jmpG k (fun p l e s m args below meth c H locs ls as d Q hC k => by
          rw [hnx e' he'] at k
          rw [hp]
          exact lv_if_eq hC.1 hC.2.1 hdg (tg_spec ha) (fun q => absurd q hc) (fun _ => k))
    | ne =>
      obtain ⟨ht, hf⟩ := h
      by_cases hc : x = 0
      · obtain ⟨⟨e', he'⟩, k⟩ := hN _ _ _ (hf hc)
        refine jmpG k (fun p l e s m args below meth c H locs ls as d Q hC k => by
          rw [hnx e' he'] at k
          rw [hp]
          exact lv_if_ne hC.1 hC.2.1 hdg (tg_spec ha) (fun q => absurd hc q) (fun _ => k))
      · refine jmpG (hJ _ _ _ _ (ht hc)) (fun p l e s m args below meth c H locs ls as d Q hC k => by rw [hp]; exact lv_if_ne hC.1 hC.2.1 hdg (tg_spec ha) (fun _ => k) (fun q => absurd q hc))
    | lt =>
      obtain ⟨ht, hf⟩ := h
      by_cases hc : x < 0
      · refine jmpG (hJ _ _ _ _ (ht hc)) (fun p l e s m args below meth c H locs ls as d Q hC k => by rw [hp]; exact lv_if_lt hC.1 hC.2.1 hdg (tg_spec ha) (fun _ => k) (fun q => absurd hc q))
      · obtain ⟨⟨e', he'⟩, k⟩ := hN _ _ _ (hf hc)
        refine jmpG k (fun p l e s m args below meth c H locs ls as d Q hC k => by
          rw [hnx e' he'] at k
          rw [hp]
          exact lv_if_lt hC.1 hC.2.1 hdg (tg_spec ha) (fun q => absurd q hc) (fun _ => k))
    | ge =>
      obtain ⟨ht, hf⟩ := h
      by_cases hc : 0 ≤ x
      · refine jmpG (hJ _ _ _ _ (ht hc)) (fun p l e s m args below meth c H locs ls as d Q hC k => by rw [hp]; exact lv_if_ge hC.1 hC.2.1 hdg (tg_spec ha) (fun _ => k) (fun q => absurd hc q))
      · obtain ⟨⟨e', he'⟩, k⟩ := hN _ _ _ (hf hc)
        refine jmpG k (fun p l e s m args below meth c H locs ls as d Q hC k => by
          rw [hnx e' he'] at k
          rw [hp]
          exact lv_if_ge hC.1 hC.2.1 hdg (tg_spec ha) (fun q => absurd q hc) (fun _ => k))
    | gt =>
      obtain ⟨ht, hf⟩ := h
      by_cases hc : 0 < x
      · refine jmpG (hJ _ _ _ _ (ht hc)) (fun p l e s m args below meth c H locs ls as d Q hC k => by rw [hp]; exact lv_if_gt hC.1 hC.2.1 hdg (tg_spec ha) (fun _ => k) (fun q => absurd hc q))
      · obtain ⟨⟨e', he'⟩, k⟩ := hN _ _ _ (hf hc)
        refine jmpG k (fun p l e s m args below meth c H locs ls as d Q hC k => by
          rw [hnx e' he'] at k
          rw [hp]
          exact lv_if_gt hC.1 hC.2.1 hdg (tg_spec ha) (fun q => absurd q hc) (fun _ => k))
    | le =>
      obtain ⟨ht, hf⟩ := h
      by_cases hc : x ≤ 0
      · refine jmpG (hJ _ _ _ _ (ht hc)) (fun p l e s m args below meth c H locs ls as d Q hC k => by rw [hp]; exact lv_if_le hC.1 hC.2.1 hdg (tg_spec ha) (fun _ => k) (fun q => absurd hc q))
      · obtain ⟨⟨e', he'⟩, k⟩ := hN _ _ _ (hf hc)
        refine jmpG k (fun p l e s m args below meth c H locs ls as d Q hC k => by
          rw [hnx e' he'] at k
          rw [hp]
          exact lv_if_le hC.1 hC.2.1 hdg (tg_spec ha) (fun q => absurd q hc) (fun _ => k))
  next => exact h.elim
theorem swt_spec {x : Int32} {J : Nat → Prop} {dflt : Prop} : ∀ {ps : List (Int32 × Nat)}, swt x J dflt ps → (∃ (q : Nat) (v : Int32) (t : Nat), ps[q]? = some (v, t) ∧ x = v ∧ J t) ∨ ((∀ (q : Nat) (v : Int32) (t : Nat), ps[q]? = some (v, t) → ¬ x = v) ∧ dflt)
  | [], h => Or.inr ⟨fun q v t hq => by simp at hq, h⟩
  | (v, t) :: ps, h => by
    by_cases hx : x = v
    · exact Or.inl ⟨0, v, t, rfl, hx, h.1 hx⟩
    · rcases swt_spec h.2 with ⟨q, v', t', h1, h2, h3⟩ | ⟨h1, h2⟩
      · exact Or.inl ⟨q + 1, v', t', h1, h2, h3⟩
      · refine Or.inr ⟨fun q v' t' hq => ?_, h2⟩
        cases q with
        | zero => cases hq; exact hx
        | succ q => exact h1 q v' t' hq
theorem swt_first {x : Int32} {J : Nat → Prop} {dflt : Prop} : ∀ {ps : List (Int32 × Nat)}, swt x J dflt ps → (∃ (q : Nat) (v : Int32) (t : Nat), ps[q]? = some (v, t) ∧ x = v ∧ (∀ (q' : Nat) (v' : Int32) (t' : Nat), q' < q → ps[q']? = some (v', t') → ¬ x = v') ∧ J t) ∨ ((∀ (q : Nat) (v : Int32) (t : Nat), ps[q]? = some (v, t) → ¬ x = v) ∧ dflt)
  | [], h => Or.inr ⟨fun q v t hq => by simp at hq, h⟩
  | (v, t) :: ps, h => by
    by_cases hx : x = v
    · exact Or.inl ⟨0, v, t, rfl, hx, fun q' _ _ hq' => by omega, h.1 hx⟩
    · rcases swt_first h.2 with ⟨q, v', t', h1, h2, h4, h3⟩ | ⟨h1, h2⟩
      · refine Or.inl ⟨q + 1, v', t', h1, h2, fun q' v2 t2 hq' hs => ?_, h3⟩
        cases q' with
        | zero => cases hs; exact hx
        | succ q' => exact h4 q' v2 t2 (by omega) hs
      · refine Or.inr ⟨fun q v' t' hq => ?_, h2⟩
        cases q with
        | zero => cases hq; exact hx
        | succ q => exact h1 q v' t' hq
theorem swd_of {x : Int32} : ∀ {ps : List (Int32 × Nat)}, (∀ (q : Nat) (v : Int32) (t : Nat), ps[q]? = some (v, t) → ¬ x = v) → swd x ps
  | [], _ => trivial
  | (v, t) :: ps, h => ⟨h 0 v t rfl, swd_of fun q v' t' hq => h (q + 1) v' t' hq⟩
theorem swOk_spec {mid pc : Nat} : ∀ {k : Int} {os : List Int} {ps : List (Int32 × Nat)}, swOk (mD mid) pc k os ps = true → os.length = ps.length ∧ ∀ (q : Nat) (v : Int32) (t : Nat), ps[q]? = some (v, t) → v.toInt = k + (q : Int) ∧ ∃ o : Int, os[q]? = some o ∧ (pc : Int) + o = ((pcM mid t : Nat) : Int)
  | k, [], [], _ => ⟨rfl, fun q v t hq => by simp at hq⟩
  | k, [], _ :: _, h => by simp [swOk] at h
  | k, _ :: _, [], h => by simp [swOk] at h
  | k, o :: os, (v, t) :: ps, h => by
    simp only [swOk, Bool.and_eq_true, decide_eq_true_eq] at h
    obtain ⟨h1, h2, h3⟩ := h
    obtain ⟨g1, g2⟩ := swOk_spec h3
    refine ⟨by simp [g1], fun q v' t' hq => ?_⟩
    cases q with
    | zero => cases hq; exact ⟨by omega, o, rfl, tg_spec h2⟩
    | succ q =>
      obtain ⟨f1, o', f2, f3⟩ := g2 q v' t' hq
      exact ⟨by rw [f1]; push_cast; omega, o', f2, f3⟩
theorem lsOk_spec {mid pc : Nat} {x : Int32} {dflt : Int} : ∀ {os : List (Int × Int)} {ps : List (Int32 × Nat)}, lsOk (mD mid) pc os ps = true → (∀ (q : Nat) (v : Int32) (t : Nat), ps[q]? = some (v, t) → x = v → (∀ (q' : Nat) (v' : Int32) (t' : Nat), q' < q → ps[q']? = some (v', t') → ¬ x = v') → (pc : Int) + Op.lookupswitch.offset os dflt x.toInt = ((pcM mid t : Nat) : Int)) ∧ ((∀ (q : Nat) (v : Int32) (t : Nat), ps[q]? = some (v, t) → ¬ x = v) → Op.lookupswitch.offset os dflt x.toInt = dflt)
  | [], [], _ => ⟨fun q v t hq => by simp at hq, fun _ => by simp [Op.lookupswitch.offset]⟩
  | [], _ :: _, h => by simp [lsOk] at h
  | _ :: _, [], h => by simp [lsOk] at h
  | (k, o) :: os, (v, t) :: ps, h => by
    simp only [lsOk, Bool.and_eq_true, decide_eq_true_eq] at h
    obtain ⟨h1, h2, h3⟩ := h
    obtain ⟨g1, g2⟩ := lsOk_spec (x := x) (dflt := dflt) h3
    have hk : ∀ w : Int32, ¬ x = v → ¬ k = x.toInt := fun _ hx q => hx (Int32.toInt_inj.mp (by rw [h1, q]))
    have off : ¬ x = v → Op.lookupswitch.offset ((k, o) :: os) dflt x.toInt = Op.lookupswitch.offset os dflt x.toInt := fun hx => by
      have := hk 0 hx
      simp [Op.lookupswitch.offset, this]
    refine ⟨fun q v' t' hq hx hb => ?_, fun hn => ?_⟩
    · cases q with
      | zero =>
        cases hq
        subst hx
        have e : Op.lookupswitch.offset ((k, o) :: os) dflt x.toInt = o := by simp [Op.lookupswitch.offset, h1]
        rw [e]; exact tg_spec h2
      | succ q =>
        have hx0 : ¬ x = v := hb 0 v t (by omega) rfl
        rw [off hx0]
        exact g1 q v' t' hq hx (fun q' v2 t2 hq' hs => hb (q' + 1) v2 t2 (by omega) hs)
    · rw [off (hn 0 v t rfl)]
      exact g2 (fun q v' t' hq => hn (q + 1) v' t' hq)
theorem sn_tableswitch {sd : Bool} {mid i pc a b : Nat} {P : Option AV → Sg → Prop} {v : Int32} {ps : List (Int32 × Nat)} {po : Nat} {L : Lc} {st : List AV} {σ : Sg} {J : Nat → Lc → List AV → Sg → Prop} {N : Lc → List AV → Sg → Prop} (hm : mid < nM) {dflt lo hi : Int} {offs : Array Int} (he : (mD mid)[i]? = some (pc, .tableswitch dflt lo hi offs, a, b, v, ps, po)) (hJ : ∀ t L st σ, J t L st σ → G sd mid P t L st σ) (hN : ∀ L st σ, N L st σ → (∃ e', (mD mid)[i + 1]? = some e') ∧ G sd mid P (i + 1) L st σ) (h : stepw sd (mH mid) (mR mid) P J N a b v ps L st σ (.tableswitch dflt lo hi offs)) : G sd mid P i L st σ := by
  obtain ⟨hp, ha, h1, h2⟩ := ent_facts hm he
  obtain ⟨len, hdg⟩ := h2 rfl
  simp only [argOk, Bool.and_eq_true, decide_eq_true_eq] at ha
  obtain ⟨a1, a2, a3⟩ := ha
  obtain ⟨g1, g2⟩ := swOk_spec a2
  unfold stepw at h
  dsimp only at h
  split at h
  next x st' =>
    rcases swt_spec h with ⟨q, v', t, hq, hx, hj⟩ | ⟨hn, hd⟩
    · obtain ⟨f1, o, f2, f3⟩ := g2 q v' t hq
      have hql : q < offs.toList.length := by rw [g1]; exact (List.getElem?_eq_some_iff.mp hq).1
      subst hx
      refine jmpG (hJ _ _ _ _ hj) (fun p l e s m args below meth c H locs ls as d Q hC k => by
        rw [hp]
        refine lv_tableIn (off := o) hC.1 hC.2.1 hdg (by omega) (by omega) ?_ f3 k
        rw [show (x.toInt - lo).toNat = q by omega, ← Array.getElem?_toList]
        exact f2)
    · refine jmpG (hJ _ _ _ _ (hd (swd_of hn))) (fun p l e s m args below meth c H locs ls as d Q hC k => by
        rw [hp]
        refine lv_tableOut hC.1 hC.2.1 hdg ?_ (tg_spec a1) k
        by_cases hlo : x.toInt < lo
        · exact Or.inl hlo
        · by_cases hhi : hi < x.toInt
          · exact Or.inr hhi
          · exfalso
            have hql : (x.toInt - lo).toNat < ps.length := by rw [← g1]; omega
            cases hvt : ps[(x.toInt - lo).toNat] with
            | mk v' t =>
              have hq : ps[(x.toInt - lo).toNat]? = some (v', t) := by rw [List.getElem?_eq_getElem hql, hvt]
              obtain ⟨f1, -⟩ := g2 _ v' t hq
              exact hn _ v' t hq (Int32.toInt_inj.mp (by omega)))
  next => exact h.elim
theorem sn_lookupswitch {sd : Bool} {mid i pc a b : Nat} {P : Option AV → Sg → Prop} {v : Int32} {ps : List (Int32 × Nat)} {po : Nat} {L : Lc} {st : List AV} {σ : Sg} {J : Nat → Lc → List AV → Sg → Prop} {N : Lc → List AV → Sg → Prop} (hm : mid < nM) {dflt : Int} {prs : Array (Int × Int)} (he : (mD mid)[i]? = some (pc, .lookupswitch dflt prs, a, b, v, ps, po)) (hJ : ∀ t L st σ, J t L st σ → G sd mid P t L st σ) (hN : ∀ L st σ, N L st σ → (∃ e', (mD mid)[i + 1]? = some e') ∧ G sd mid P (i + 1) L st σ) (h : stepw sd (mH mid) (mR mid) P J N a b v ps L st σ (.lookupswitch dflt prs)) : G sd mid P i L st σ := by
  obtain ⟨hp, ha, h1, h2⟩ := ent_facts hm he
  obtain ⟨len, hdg⟩ := h2 rfl
  simp only [argOk, Bool.and_eq_true] at ha
  obtain ⟨a1, a2, a3⟩ := ha
  unfold stepw at h
  dsimp only at h
  split at h
  next x st' =>
    obtain ⟨g1, g2⟩ := lsOk_spec (x := x) (dflt := dflt) a2
    rcases swt_first h with ⟨q, v', t, hq, hx, hb, hj⟩ | ⟨hn, hd⟩
    · have f := g1 q v' t hq hx hb
      refine jmpG (hJ _ _ _ _ hj) (fun p l e s m args below meth c H locs ls as d Q hC k => by
        rw [hp]
        exact lv_lookup hC.1 hC.2.1 hdg a3 rfl f k)
    · have f := g2 hn
      refine jmpG (hJ _ _ _ _ (hd (swd_of hn))) (fun p l e s m args below meth c H locs ls as d Q hC k => by
        rw [hp]
        exact lv_lookup hC.1 hC.2.1 hdg a3 f (tg_spec a1) k)
  next => exact h.elim
/-! memory and calls -/
theorem uw0 : (u_ws RX0 TX0 16).map some = [378, 380, 382, 384, 386, 388, 390, 392, 394, 396, 398, 400, 402, 404, 406, 408].map (fun i => lw_tbl[i]?) := by decide +kernel
theorem uw1 : (u_ws RX1 TX1 3).map some = [422, 424, 426].map (fun i => lw_tbl[i]?) := by decide +kernel
theorem uw2 : (u_ws RX2 TX2 9).map some = [336, 338, 340, 342, 344, 346, 348, 350, 352].map (fun i => lw_tbl[i]?) := by decide +kernel
theorem uw3 : (u_ws RX3 TX3 5).map some = [248, 250, 252, 254, 256].map (fun i => lw_tbl[i]?) := by decide +kernel
theorem uw4 : (u_ws RX4 TX4 2).map some = [462, 464].map (fun i => lw_tbl[i]?) := by decide +kernel
theorem uw5 : (u_ws RX5 TX5 5).map some = [441, 443, 445, 447, 449].map (fun i => lw_tbl[i]?) := by decide +kernel
theorem uw6 : (u_ws RX6 TX6 11).map some = [207, 209, 211, 213, 215, 217, 219, 221, 223, 225, 227].map (fun i => lw_tbl[i]?) := by decide +kernel
theorem uw7 : (u_ws RX7 TX7 8).map some = [483, 485, 487, 489, 491, 493, 495, 497].map (fun i => lw_tbl[i]?) := by decide +kernel
theorem uw8 : (u_ws RX8 TX8 15).map some = [150, 152, 154, 156, 158, 160, 162, 164, 166, 168, 170, 172, 174, 176, 178].map (fun i => lw_tbl[i]?) := by decide +kernel
theorem uw9 : (u_ws RX9 TX9 3).map some = [510, 512, 514].map (fun i => lw_tbl[i]?) := by decide +kernel
theorem uw10 : (u_ws RX10 TX10 7).map some = [290, 292, 294, 296, 298, 300, 302].map (fun i => lw_tbl[i]?) := by decide +kernel
theorem uw11 : (u_ws RX11 TX11 10).map some = [527, 529, 531, 533, 535, 537, 539, 541, 543, 545].map (fun i => lw_tbl[i]?) := by decide +kernel
theorem uw12 : (u_ws RX12 TX12 50).map some = [1230, 1232, 1234, 1236, 1238, 1240, 1242, 1244, 1246, 1248, 1250, 1252, 1254, 1256, 1258, 1260, 1262, 1264, 1266, 1268, 1270, 1272, 1274, 1276, 1278, 1280, 1282, 1284, 1286, 1288, 1290, 1292, 1294, 1296, 1298, 1300, 1302, 1304, 1306, 1308, 1310, 1312, 1314, 1316, 1318, 1320, 1322, 1324, 1326, 1328].map (fun i => lw_tbl[i]?) := by decide +kernel
theorem uw_in {ws : List Jvm.Cond} {ps : List Nat} (h : ws.map some = ps.map (fun i => lw_tbl[i]?)) (hg : ws.all goodWord = true) : ∀ w ∈ ws, w ∈ lw_g := by
  intro w hw
  have h1 : some w ∈ ws.map some := List.mem_map.mpr ⟨w, hw, rfl⟩
  rw [h] at h1
  obtain ⟨i, -, hi⟩ := List.mem_map.mp h1
  exact List.mem_filter.mpr ⟨List.mem_of_getElem? hi, List.all_eq_true.mp hg w hw⟩
theorem cls_ok {a : Nat} {q : vw_C} (h : classes[a]? = some q) : (∀ w ∈ u_ws q.1 q.2.1 q.2.2, w ∈ lw_g) ∧ (∃ ty0 : Nat → FieldType, ∀ k, k < q.2.2 → parseFieldDescriptor (q.2.1 k).2.2.1 = some (ty0 k)) ∧ ∀ x, x < q.2.2 → ∀ y, y < q.2.2 → x ≠ y → (q.2.1 x).2.1 ≠ (q.2.1 y).2.1 := by
  match a, h with
  | 0, h => cases h; exact ⟨uw_in uw0 (by decide +kernel), ⟨tyX0, tyX0_ok⟩, nmX0⟩
  | 1, h => cases h; exact ⟨uw_in uw1 (by decide +kernel), ⟨tyX1, tyX1_ok⟩, nmX1⟩
  | 2, h => cases h; exact ⟨uw_in uw2 (by decide +kernel), ⟨tyX2, tyX2_ok⟩, nmX2⟩
  | 3, h => cases h; exact ⟨uw_in uw3 (by decide +kernel), ⟨tyX3, tyX3_ok⟩, nmX3⟩
  | 4, h => cases h; exact ⟨uw_in uw4 (by decide +kernel), ⟨tyX4, tyX4_ok⟩, nmX4⟩
  | 5, h => cases h; exact ⟨uw_in uw5 (by decide +kernel), ⟨tyX5, tyX5_ok⟩, nmX5⟩
  | 6, h => cases h; exact ⟨uw_in uw6 (by decide +kernel), ⟨tyX6, tyX6_ok⟩, nmX6⟩
  | 7, h => cases h; exact ⟨uw_in uw7 (by decide +kernel), ⟨tyX7, tyX7_ok⟩, nmX7⟩
  | 8, h => cases h; exact ⟨uw_in uw8 (by decide +kernel), ⟨tyX8, tyX8_ok⟩, nmX8⟩
  | 9, h => cases h; exact ⟨uw_in uw9 (by decide +kernel), ⟨tyX9, tyX9_ok⟩, nmX9⟩
  | 10, h => cases h; exact ⟨uw_in uw10 (by decide +kernel), ⟨tyX10, tyX10_ok⟩, nmX10⟩
  | 11, h => cases h; exact ⟨uw_in uw11 (by decide +kernel), ⟨tyX11, tyX11_ok⟩, nmX11⟩
  | 12, h => cases h; exact ⟨uw_in uw12 (by decide +kernel), ⟨tyX12, tyX12_ok⟩, nmX12⟩
  | a + 13, h => simp [classes] at h
theorem clT_spec {a b : Nat} {rf nm ds : String} {fin : Bool} {n : Nat} (h : clT a b = some (rf, nm, ds, fin, n)) : ∃ q, classes[a]? = some q ∧ (q.2.1 b).1 = rf ∧ (q.2.1 b).2.1 = nm ∧ (q.2.1 b).2.2.1 = ds ∧ (q.2.1 b).2.2.2 = fin ∧ q.2.2 = n := by
  unfold clT at h
  cases hq : classes[a]? with
  | none => rw [hq] at h; cases h
  | some q =>
    rw [hq] at h
    cases h
    exact ⟨q, rfl, rfl, rfl, rfl, rfl, rfl⟩
def lenK (k : Nat) : Bool := match shp k with
  | some (_, .inr (.inl (_, len))) => Nat.blt (len true) 2147483648 && Nat.blt (len false) 2147483648
  | some (_, .inr (.inr (n, len))) => Nat.blt n 2147483648 && (Nat.blt (len true) 2147483648 && Nat.blt (len false) 2147483648)
  | _ => true
theorem lenK_ok : ∀ k, lenK k = true := by
  intro k
  by_cases h : k < 105
  · exact List.all_eq_true.mp (by decide +kernel : (List.range 105).all lenK = true) k (List.mem_range.mpr h)
  · have : shp k = none := by
      unfold shp
      rw [show Nat.blt k 105 = false by rw [Bool.eq_false_iff]; intro q; exact h (Nat.blt_eq.mp q)]
      rfl
    unfold lenK
    rw [this]
theorem arrC_len {sd : Bool} {k : Nat} {d : Bool} {i : Nat} {z : Bool} {n : Nat} {rw' : Option (Nat × Nat)} (h : arrC sd k d i = some (z, n, rw')) : n < 2147483648 := by
  have hk := lenK_ok k
  unfold arrC at h
  unfold lenK at hk
  split at h
  next b z' len hs =>
    rw [hs] at hk
    simp only [Bool.and_eq_true, Nat.blt_eq] at hk
    split at h
    next hc =>
      cases h
      cases d
      · exact hk.2
      · exact hk.1
    next => cases h
  next b n' len hs =>
    rw [hs] at hk
    simp only [Bool.and_eq_true, Nat.blt_eq] at hk
    split at h
    next i' hc =>
      cases h
      cases d
      · exact hk.2.2
      · exact hk.2.1
    next => cases h
  next => cases h
theorem gridC_len {sd : Bool} {k : Nat} {d : Bool} {i n : Nat} (h : gridC sd k d i = some n) : n < 2147483648 := by
  have hk := lenK_ok k
  unfold gridC at h
  unfold lenK at hk
  split at h
  next b n' len hs =>
    rw [hs] at hk
    simp only [Bool.and_eq_true, Nat.blt_eq] at hk
    split at h
    next hc =>
      cases h
      exact hk.1
    next => cases h
  next => cases h
theorem in_of {j : Int32} {q n : Nat} (hn : n < 2147483648) (hj : j = nI q) (hq : q < n) : vp_in j n ∧ j.toNatClampNeg = q := by
  subst hj
  exact ⟨vp_in_nI hq hn, nI_clamp (by omega)⟩
theorem arrC_spec {sd : Bool} {k : Nat} {d : Bool} {i : Nat} {z : Bool} {n : Nat} {rw' : Option (Nat × Nat)} {Q : Prop} (h : arrC sd k d i = some (z, n, rw')) (hq : rowP rw' Q) (cs : Cs) (as : Ad) : ((k, d, i) ∈ lbs sd ∧ ∀ σ, cel cs as σ k d i = .inl (bif z then cs.2.1 else cs.1, n, .inl (σ k d i))) ∧ Q := by
  unfold arrC at h
  split at h
  next b z' len hs =>
    split at h
    next hc =>
      cases h
      rw [Bool.and_eq_true] at hc
      exact ⟨⟨lbs_mem hs hc.1 hc.2 (Nat.zero_le _), fun σ => by unfold cel; rw [hs]⟩, hq⟩
    next => cases h
  next b n' len hs =>
    split at h
    next i' hc =>
      cases h
      rw [Bool.and_eq_true] at hc
      exact ⟨⟨lbs_mem hs hc.1 hc.2 (by show i' + 1 ≤ n'; exact hq.1), fun σ => by unfold cel; rw [hs]; rfl⟩, hq.2⟩
    next => cases h
  next => cases h
theorem gridC_spec {sd : Bool} {k : Nat} {d : Bool} {i n : Nat} (h : gridC sd k d i = some n) (cs : Cs) (as : Ad) : (k, d, i) ∈ lbs sd ∧ ∀ σ, cel cs as σ k d i = .inl (cs.2.2, n, .inr (.inr (.inr (.inr fun j => if j < n then some (as k d (j + 1)) else none)))) := by
  unfold gridC at h
  split at h
  next b n' len hs =>
    split at h
    next hc =>
      cases h
      rw [Bool.and_eq_true] at hc
      exact ⟨lbs_mem hs hc.1 hc.2 (Nat.zero_le _), fun σ => by unfold cel; rw [hs]⟩
    next => cases h
  next => cases h
theorem objC_spec {sd : Bool} {k : Nat} {d : Bool} {i ci : Nat} {fs : List (Option (Nat × (Bool → Bool)))} (h : objC sd k d i = some (ci, fs)) (cs : Cs) (as : Ad) : (k, d, i) ∈ lbs sd ∧ ∀ σ, cel cs as σ k d i = .inr (ci, fs.mapIdx (objV as (σ k d i) d)) := by
  unfold objC at h
  split at h
  next b ci' fs' hs =>
    split at h
    next hc =>
      cases h
      rw [Bool.and_eq_true] at hc
      exact ⟨lbs_mem hs hc.1 hc.2 (Nat.zero_le _), fun σ => by unfold cel; rw [hs]⟩
    next => cases h
  next => cases h
theorem objV_set {as : Ad} {v : Nat → Int32} {d : Bool} {fs : List (Option (Nat × (Bool → Bool)))} {b : Nat} (h : fs[b]? = some none) (x : Int32) : fs.mapIdx (objV as (upd v b x) d) = (fs.mapIdx (objV as v d)).set b (.int x) := by
  refine List.ext_getElem? fun q => ?_
  rw [List.getElem?_mapIdx]
  by_cases hq : b = q
  · subst hq
    have hl : b < (fs.mapIdx (objV as v d)).length := by rw [List.length_mapIdx]; exact (List.getElem?_eq_some_iff.mp h).1
    rw [List.getElem?_set_self hl, h]
    show some (Value.int (upd v b x b)) = _
    unfold upd
    simp
  · rw [List.getElem?_set_ne hq, List.getElem?_mapIdx]
    cases fs[q]? with
    | none => rfl
    | some f =>
      cases f with
      | none =>
        show some (Value.int (upd v b x q)) = some (Value.int (v q))
        unfold upd
        rw [if_neg (fun e => hq e.symm)]
      | some _ => rfl
theorem sn_getfield {sd : Bool} {mid i pc a b : Nat} {P : Option AV → Sg → Prop} {v : Int32} {ps : List (Int32 × Nat)} {po : Nat} {L : Lc} {st : List AV} {σ : Sg} {J : Nat → Lc → List AV → Sg → Prop} {N : Lc → List AV → Sg → Prop} (hm : mid < nM) {n : Nat} (he : (mD mid)[i]? = some (pc, .getfield n, a, b, v, ps, po)) (hJ : ∀ t L st σ, J t L st σ → G sd mid P t L st σ) (hN : ∀ L st σ, N L st σ → (∃ e', (mD mid)[i + 1]? = some e') ∧ G sd mid P (i + 1) L st σ) (h : stepw sd (mH mid) (mR mid) P J N a b v ps L st σ (.getfield n)) : G sd mid P i L st σ := by
  obtain ⟨hp, ha, h1, h2⟩ := ent_facts hm he
  obtain ⟨hdg, hnx⟩ := h1 rfl
  unfold stepw at h
  dsimp only at h
  split at h
  next k d i' st' =>
    split at h
    next ci fs ho =>
      simp only [argOk] at ha
      split at ha
      next rf nm ds fin n' hcl =>
        rw [Bool.and_eq_true] at ha
        obtain ⟨hb1, hb2⟩ := ha
        have hb2 := of_decide_eq_true hb2
        have hb1 := Nat.blt_eq.mp hb1
        obtain ⟨q, hq, rfl, rfl, rfl, rfl, rfl⟩ := clT_spec hcl
        obtain ⟨c1, -, -⟩ := cls_ok hq
        split at h
        next hci hf =>
          have hci : ci = a := by simpa using hci
          subst hci
          refine fallG hp hnx (hN _ _ _ h) (fun p l e s m args below meth c H locs ls D cs as dd Q hC hW hl kk => ?_)
          obtain ⟨g1, g2⟩ := objC_spec ho cs as
          obtain ⟨q0, -, hq0⟩ := conc_get (cs := cs) (as := as) (σ := σ) g1
          rw [show cel cs as σ (k, d, i').1 (k, d, i').2.1 (k, d, i').2.2 = _ from g2 σ] at hq0
          exact va_get hC.1 hC.2.1 hC.2.2.2.2.2.1 c1 hC.2.2.2.2.1 hW.2.1 hW.1 q0 hq0 hq b hb1 (hts_at hC.2.2.2.2.2.1 hb2) (fun _ h => h) (v := .int (σ k d i' b)) (by rw [List.getElem?_mapIdx, hf]; rfl) hdg (kk ls hl)
        next k' g hci hf =>
          have hci : ci = a := by simpa using hci
          subst hci
          refine fallG hp hnx (hN _ _ _ h) (fun p l e s m args below meth c H locs ls D cs as dd Q hC hW hl kk => ?_)
          obtain ⟨g1, g2⟩ := objC_spec ho cs as
          obtain ⟨q0, -, hq0⟩ := conc_get (cs := cs) (as := as) (σ := σ) g1
          rw [show cel cs as σ (k, d, i').1 (k, d, i').2.1 (k, d, i').2.2 = _ from g2 σ] at hq0
          exact va_get hC.1 hC.2.1 hC.2.2.2.2.2.1 c1 hC.2.2.2.2.1 hW.2.1 hW.1 q0 hq0 hq b hb1 (hts_at hC.2.2.2.2.2.1 hb2) (fun _ h => h) (v := .ref (as k' (g d) 0)) (by rw [List.getElem?_mapIdx, hf]; rfl) hdg (kk ls hl)
        next => exact h.elim
      next => cases ha
    next => exact h.elim
  next => exact h.elim
theorem sn_putfield {sd : Bool} {mid i pc a b : Nat} {P : Option AV → Sg → Prop} {v : Int32} {ps : List (Int32 × Nat)} {po : Nat} {L : Lc} {st : List AV} {σ : Sg} {J : Nat → Lc → List AV → Sg → Prop} {N : Lc → List AV → Sg → Prop} (hm : mid < nM) {n : Nat} (he : (mD mid)[i]? = some (pc, .putfield n, a, b, v, ps, po)) (hJ : ∀ t L st σ, J t L st σ → G sd mid P t L st σ) (hN : ∀ L st σ, N L st σ → (∃ e', (mD mid)[i + 1]? = some e') ∧ G sd mid P (i + 1) L st σ) (h : stepw sd (mH mid) (mR mid) P J N a b v ps L st σ (.putfield n)) : G sd mid P i L st σ := by
  obtain ⟨hp, ha, h1, h2⟩ := ent_facts hm he
  obtain ⟨hdg, hnx⟩ := h1 rfl
  unfold stepw at h
  dsimp only at h
  split at h
  next x k d i' st' =>
    split at h
    next ci fs ho =>
      simp only [argOk] at ha
      split at ha
      next rf nm ds fin n' hcl =>
        simp only [Bool.and_eq_true, decide_eq_true_eq] at ha
        obtain ⟨hb1, hfin, hds, hb2⟩ := ha
        have hb1 := Nat.blt_eq.mp hb1
        obtain ⟨q, hq, rfl, rfl, rfl, rfl, rfl⟩ := clT_spec hcl
        obtain ⟨c1, ⟨ty0, c2⟩, c3⟩ := cls_ok hq
        split at h
        next hci hf =>
          have hci : ci = a := by simpa using hci
          subst hci
          obtain ⟨x, rfl, h⟩ := h
          refine fallS hp hnx (hN _ _ _ h) (fun p l e s m args below meth c H locs ls D cs as d' Q hd hC hW hS hsz kk => ?_)
          obtain ⟨g1, g2⟩ := objC_spec ho cs as
          obtain ⟨q0, hl0, hq0⟩ := conc_get (cs := cs) (as := as) (σ := σ) g1
          rw [show cel cs as σ (k, d, i').1 (k, d, i').2.1 (k, d, i').2.2 = _ from g2 σ] at hq0
          refine va_put hC.1 hC.2.1 hC.2.2.2.2.2.1 c1 ty0 c2 c3 hC.2.2.2.2.1 hW.2.1 hW.1 hW.2.2 hS q0 hq0 hq b hb1 (hts_at hC.2.2.2.2.2.1 hb2) (fun _ h => h) hfin (ty := .int) (v := .int x) (by rw [hds]; decide +kernel) rfl rfl (by rw [List.length_mapIdx]; exact (List.getElem?_eq_some_iff.mp hf).1) hdg (fun H1 locs1 hP1 hD1 hS1 => ?_)
          have e := conc_set (sd := sd) (cs := cs) (as := as) (σ := σ) b x hl0
          rw [g2 (up4 σ k d i' b x), up4_same, objV_set hf] at e
          rw [e] at hP1 hD1
          exact kk H1 locs1 ⟨hP1, hW.2.1, hD1⟩ hS1
        next => exact h.elim
      next => cases ha
    next => exact h.elim
  next => exact h.elim
theorem sn_iaload {sd : Bool} {mid i pc a b : Nat} {P : Option AV → Sg → Prop} {v : Int32} {ps : List (Int32 × Nat)} {po : Nat} {L : Lc} {st : List AV} {σ : Sg} {J : Nat → Lc → List AV → Sg → Prop} {N : Lc → List AV → Sg → Prop} (hm : mid < nM) (he : (mD mid)[i]? = some (pc, .iaload, a, b, v, ps, po)) (hJ : ∀ t L st σ, J t L st σ → G sd mid P t L st σ) (hN : ∀ L st σ, N L st σ → (∃ e', (mD mid)[i + 1]? = some e') ∧ G sd mid P (i + 1) L st σ) (h : stepw sd (mH mid) (mR mid) P J N a b v ps L st σ (.iaload)) : G sd mid P i L st σ := by
  obtain ⟨hp, ha, h1, h2⟩ := ent_facts hm he
  obtain ⟨hdg, hnx⟩ := h1 rfl
  unfold stepw at h
  dsimp only at h
  split at h
  next j k d i' st' =>
    split at h
    next n rw' ho =>
      have hh := fun cs as => (arrC_spec ho h cs as).1
      obtain ⟨-, q9, hj, hq9, h⟩ := arrC_spec ho h (0, 0, 0) (fun _ _ _ => 0)
      obtain ⟨hin, e9⟩ := in_of (arrC_len ho) hj hq9
      subst e9
      refine fallG hp hnx (hN _ _ _ h) (fun p l e s m args below meth c H locs ls D cs as dd Q hC hW hl kk => ?_)
      obtain ⟨g1, g2⟩ := hh cs as
      obtain ⟨q0, -, hq0⟩ := conc_get (cs := cs) (as := as) (σ := σ) g1
      rw [show cel cs as σ (k, d, i').1 (k, d, i').2.1 (k, d, i').2.2 = _ from g2 σ] at hq0
      exact va_iald hC.1 hC.2.1 hW.2.1 hW.1 q0 0 hq0 rfl hin hdg (kk ls hl)
    next => exact h.elim
  next => exact h.elim
theorem sn_baload {sd : Bool} {mid i pc a b : Nat} {P : Option AV → Sg → Prop} {v : Int32} {ps : List (Int32 × Nat)} {po : Nat} {L : Lc} {st : List AV} {σ : Sg} {J : Nat → Lc → List AV → Sg → Prop} {N : Lc → List AV → Sg → Prop} (hm : mid < nM) (he : (mD mid)[i]? = some (pc, .baload, a, b, v, ps, po)) (hJ : ∀ t L st σ, J t L st σ → G sd mid P t L st σ) (hN : ∀ L st σ, N L st σ → (∃ e', (mD mid)[i + 1]? = some e') ∧ G sd mid P (i + 1) L st σ) (h : stepw sd (mH mid) (mR mid) P J N a b v ps L st σ (.baload)) : G sd mid P i L st σ := by
  obtain ⟨hp, ha, h1, h2⟩ := ent_facts hm he
  obtain ⟨hdg, hnx⟩ := h1 rfl
  unfold stepw at h
  dsimp only at h
  split at h
  next j k d i' st' =>
    split at h
    next n rw' ho =>
      have hh := fun cs as => (arrC_spec ho h cs as).1
      obtain ⟨-, q9, hj, hq9, h⟩ := arrC_spec ho h (0, 0, 0) (fun _ _ _ => 0)
      obtain ⟨hin, e9⟩ := in_of (arrC_len ho) hj hq9
      subst e9
      refine fallG hp hnx (hN _ _ _ h) (fun p l e s m args below meth c H locs ls D cs as dd Q hC hW hl kk => ?_)
      obtain ⟨g1, g2⟩ := hh cs as
      obtain ⟨q0, -, hq0⟩ := conc_get (cs := cs) (as := as) (σ := σ) g1
      rw [show cel cs as σ (k, d, i').1 (k, d, i').2.1 (k, d, i').2.2 = _ from g2 σ] at hq0
      exact va_zald hC.1 hC.2.1 hW.2.1 hW.1 q0 1 hq0 rfl hin hdg (kk ls hl)
    next => exact h.elim
  next => exact h.elim
theorem sn_iastore {sd : Bool} {mid i pc a b : Nat} {P : Option AV → Sg → Prop} {v : Int32} {ps : List (Int32 × Nat)} {po : Nat} {L : Lc} {st : List AV} {σ : Sg} {J : Nat → Lc → List AV → Sg → Prop} {N : Lc → List AV → Sg → Prop} (hm : mid < nM) (he : (mD mid)[i]? = some (pc, .iastore, a, b, v, ps, po)) (hJ : ∀ t L st σ, J t L st σ → G sd mid P t L st σ) (hN : ∀ L st σ, N L st σ → (∃ e', (mD mid)[i + 1]? = some e') ∧ G sd mid P (i + 1) L st σ) (h : stepw sd (mH mid) (mR mid) P J N a b v ps L st σ (.iastore)) : G sd mid P i L st σ := by
  obtain ⟨hp, ha, h1, h2⟩ := ent_facts hm he
  obtain ⟨hdg, hnx⟩ := h1 rfl
  unfold stepw at h
  dsimp only at h
  split at h
  next x j k d i' st' =>
    split at h
    next n rw' ho =>
      have hh := fun cs as => (arrC_spec ho h cs as).1
      obtain ⟨-, q9, hj, hq9, y9, rfl, h⟩ := arrC_spec ho h (0, 0, 0) (fun _ _ _ => 0)
      obtain ⟨hin, e9⟩ := in_of (arrC_len ho) hj hq9
      subst e9
      refine fallS hp hnx (hN _ _ _ h) (fun p l e s m args below meth c H locs ls D cs as d' Q hd hC hW hS hsz kk => ?_)
      obtain ⟨g1, g2⟩ := hh cs as
      obtain ⟨q0, hl0, hq0⟩ := conc_get (cs := cs) (as := as) (σ := σ) g1
      rw [show cel cs as σ (k, d, i').1 (k, d, i').2.1 (k, d, i').2.2 = _ from g2 σ] at hq0
      refine va_iast hC.1 hC.2.1 hW.2.1 hW.1 hW.2.2 hS q0 0 hq0 rfl hin hdg (fun H1 locs1 hP1 hD1 hS1 => ?_)
      have e := conc_set (sd := sd) (cs := cs) (as := as) (σ := σ) j.toNatClampNeg x hl0
      rw [g2 (up4 σ k d i' j.toNatClampNeg x), up4_same] at e
      exact kk H1 locs1 ⟨e ▸ hP1, hW.2.1, e ▸ hD1⟩ hS1
    next => exact h.elim
  next => exact h.elim
theorem sn_bastore {sd : Bool} {mid i pc a b : Nat} {P : Option AV → Sg → Prop} {v : Int32} {ps : List (Int32 × Nat)} {po : Nat} {L : Lc} {st : List AV} {σ : Sg} {J : Nat → Lc → List AV → Sg → Prop} {N : Lc → List AV → Sg → Prop} (hm : mid < nM) (he : (mD mid)[i]? = some (pc, .bastore, a, b, v, ps, po)) (hJ : ∀ t L st σ, J t L st σ → G sd mid P t L st σ) (hN : ∀ L st σ, N L st σ → (∃ e', (mD mid)[i + 1]? = some e') ∧ G sd mid P (i + 1) L st σ) (h : stepw sd (mH mid) (mR mid) P J N a b v ps L st σ (.bastore)) : G sd mid P i L st σ := by
  obtain ⟨hp, ha, h1, h2⟩ := ent_facts hm he
  obtain ⟨hdg, hnx⟩ := h1 rfl
  unfold stepw at h
  dsimp only at h
  split at h
  next x j k d i' st' =>
    split at h
    next n rw' ho =>
      have hh := fun cs as => (arrC_spec ho h cs as).1
      obtain ⟨-, q9, hj, hq9, y9, rfl, h⟩ := arrC_spec ho h (0, 0, 0) (fun _ _ _ => 0)
      obtain ⟨hin, e9⟩ := in_of (arrC_len ho) hj hq9
      subst e9
      refine fallS hp hnx (hN _ _ _ h) (fun p l e s m args below meth c H locs ls D cs as d' Q hd hC hW hS hsz kk => ?_)
      obtain ⟨g1, g2⟩ := hh cs as
      obtain ⟨q0, hl0, hq0⟩ := conc_get (cs := cs) (as := as) (σ := σ) g1
      rw [show cel cs as σ (k, d, i').1 (k, d, i').2.1 (k, d, i').2.2 = _ from g2 σ] at hq0
      refine va_zast hC.1 hC.2.1 hW.2.1 hW.1 hW.2.2 hS q0 1 hq0 rfl hin hdg (fun H1 locs1 hP1 hD1 hS1 => ?_)
      have e := conc_set (sd := sd) (cs := cs) (as := as) (σ := σ) j.toNatClampNeg (vp_nar .boolean x) hl0
      rw [g2 (up4 σ k d i' j.toNatClampNeg (vp_nar .boolean x)), up4_same] at e
      exact kk H1 locs1 ⟨e ▸ hP1, hW.2.1, e ▸ hD1⟩ hS1
    next => exact h.elim
  next => exact h.elim
theorem sn_aaload {sd : Bool} {mid i pc a b : Nat} {P : Option AV → Sg → Prop} {v : Int32} {ps : List (Int32 × Nat)} {po : Nat} {L : Lc} {st : List AV} {σ : Sg} {J : Nat → Lc → List AV → Sg → Prop} {N : Lc → List AV → Sg → Prop} (hm : mid < nM) (he : (mD mid)[i]? = some (pc, .aaload, a, b, v, ps, po)) (hJ : ∀ t L st σ, J t L st σ → G sd mid P t L st σ) (hN : ∀ L st σ, N L st σ → (∃ e', (mD mid)[i + 1]? = some e') ∧ G sd mid P (i + 1) L st σ) (h : stepw sd (mH mid) (mR mid) P J N a b v ps L st σ (.aaload)) : G sd mid P i L st σ := by
  obtain ⟨hp, ha, h1, h2⟩ := ent_facts hm he
  obtain ⟨hdg, hnx⟩ := h1 rfl
  unfold stepw at h
  dsimp only at h
  split at h
  next j k d i' st' =>
    split at h
    next n ho =>
      obtain ⟨q9, hj, hq9, h⟩ := h
      obtain ⟨hin, e9⟩ := in_of (gridC_len ho) hj hq9
      subst e9
      refine fallG hp hnx (hN _ _ _ h) (fun p l e s m args below meth c H locs ls D cs as dd Q hC hW hl kk => ?_)
      obtain ⟨g1, g2⟩ := gridC_spec ho cs as
      obtain ⟨q0, -, hq0⟩ := conc_get (cs := cs) (as := as) (σ := σ) g1
      rw [show cel cs as σ (k, d, i').1 (k, d, i').2.1 (k, d, i').2.2 = _ from g2 σ] at hq0
      have hlt : j.toNatClampNeg < n := Nat.not_le.mp fun q => hin (Or.inr q)
      refine W.aald (v := .ref (as k d (j.toNatClampNeg + 1))) (ty := .array .int) hC.1 hC.2.1 (hW.1 q0 _ hq0) ((hW.2.1.2 2 _ rfl).1 n (fun j => va_rf (if j < n then some (as k d (j + 1)) else none))) rfl (fun q => by cases q) (by show ¬ (j < 0 ∨ (arrV _ _ _).slots.size ≤ _); rw [arrV_size]; exact hin) (by show (arrV _ _ _).slots[_]? = _; rw [arrV_read _ _ hlt]; show some (va_rf (if _ then _ else _)) = _; rw [if_pos hlt]; rfl) rfl rfl hdg (kk ls hl)
    next => exact h.elim
  next => exact h.elim
theorem sn_arraylength {sd : Bool} {mid i pc a b : Nat} {P : Option AV → Sg → Prop} {v : Int32} {ps : List (Int32 × Nat)} {po : Nat} {L : Lc} {st : List AV} {σ : Sg} {J : Nat → Lc → List AV → Sg → Prop} {N : Lc → List AV → Sg → Prop} (hm : mid < nM) (he : (mD mid)[i]? = some (pc, .arraylength, a, b, v, ps, po)) (hJ : ∀ t L st σ, J t L st σ → G sd mid P t L st σ) (hN : ∀ L st σ, N L st σ → (∃ e', (mD mid)[i + 1]? = some e') ∧ G sd mid P (i + 1) L st σ) (h : stepw sd (mH mid) (mR mid) P J N a b v ps L st σ (.arraylength)) : G sd mid P i L st σ := by
  obtain ⟨hp, ha, h1, h2⟩ := ent_facts hm he
  obtain ⟨hdg, hnx⟩ := h1 rfl
  unfold stepw at h
  dsimp only at h
  split at h
  next k d i' st' =>
    split at h
    next z n rw' ho =>
      have hh := fun cs as => (arrC_spec ho h cs as).1
      obtain ⟨-, h⟩ := arrC_spec ho h (0, 0, 0) (fun _ _ _ => 0)
      refine fallG hp hnx (hN _ _ _ h) (fun p l e s m args below meth c H locs ls D cs as dd Q hC hW hl kk => ?_)
      obtain ⟨g1, g2⟩ := hh cs as
      obtain ⟨q0, -, hq0⟩ := conc_get (cs := cs) (as := as) (σ := σ) g1
      rw [show cel cs as σ (k, d, i').1 (k, d, i').2.1 (k, d, i').2.2 = _ from g2 σ] at hq0
      cases z with
      | false => exact va_alen hC.1 hC.2.1 hW.2.1 hW.1 q0 0 hq0 (ty := .int) rfl rfl hdg (kk ls hl)
      | true => exact va_alen hC.1 hC.2.1 hW.2.1 hW.1 q0 1 hq0 (ty := .boolean) rfl rfl hdg (kk ls hl)
    next =>
      split at h
      next n ho =>
        refine fallG hp hnx (hN _ _ _ h) (fun p l e s m args below meth c H locs ls D cs as dd Q hC hW hl kk => ?_)
        obtain ⟨g1, g2⟩ := gridC_spec ho cs as
        obtain ⟨q0, -, hq0⟩ := conc_get (cs := cs) (as := as) (σ := σ) g1
        rw [show cel cs as σ (k, d, i').1 (k, d, i').2.1 (k, d, i').2.2 = _ from g2 σ] at hq0
        exact va_alen hC.1 hC.2.1 hW.2.1 hW.1 q0 2 hq0 (ty := .array .int) rfl rfl hdg (kk ls hl)
      next => exact h.elim
  next => exact h.elim
theorem mw_abs : wAt 760 = some (.static Jvm.Lib.Math.abs.name) ∧ wAt 87 = some (.initialized "java/lang/Math") ∧ wAt 761 = some (.code Jvm.Lib.Math.abs.name Jvm.Lib.Math.abs.code 1 (some .int)) := ⟨by decide +kernel, by decide +kernel, by decide +kernel⟩
theorem mw_max : wAt 314 = some (.static Jvm.Lib.Math.max.name) ∧ wAt 87 = some (.initialized "java/lang/Math") ∧ wAt 315 = some (.code Jvm.Lib.Math.max.name Jvm.Lib.Math.max.code 2 (some .int)) := ⟨by decide +kernel, by decide +kernel, by decide +kernel⟩
theorem mw_min : wAt 723 = some (.static Jvm.Lib.Math.min.name) ∧ wAt 87 = some (.initialized "java/lang/Math") ∧ wAt 724 = some (.code Jvm.Lib.Math.min.name Jvm.Lib.Math.min.code 2 (some .int)) := ⟨by decide +kernel, by decide +kernel, by decide +kernel⟩
theorem inf_facts {a : Nat} (h : a < nM) : (wAt (mQ a).1 = some (.code (mY a) (mC a) (mN a) (mR a)) ∧ wAt (mQ a).2.1 = some (.initialized (mY a).cls)) ∧ (mS a = true → wAt (mQ a).2.2.1 = some (.static (mY a))) ∧ (mS a = false → wAt (mQ a).2.2.1 = some (.instanceMethod (mY a)) ∧ wAt (mQ a).2.2.2 = some (.selects (mY a).cls (mY a) (mY a)) ∧ (classes[mK a]?).map Prod.fst = some (mY a).cls) ∧
    Jvm.plainName (mY a).cls = true ∧ mN a ≤ 19 ∧ ((mY a).cls ≠ "java/lang/invoke/MethodHandle" ∧ (mY a).cls ≠ "java/lang/invoke/VarHandle" ∧ (parseMethodDescriptor (mY a).desc).map (fun d => d.parameters.length) = some (mP a)) ∧ pcAt (mD a) 0 = some 0 := by
  have h := met_ok h
  unfold metOk at h
  rw [Bool.and_eq_true] at h
  have h := h.1
  have hw := code_word h
  unfold infOk at h
  simp only [Bool.and_eq_true, decide_eq_true_eq] at h
  obtain ⟨h1, h2, h3, h4, h5, h6, h7, h8, h9⟩ := h
  refine ⟨⟨hw, h2⟩, fun hs => ?_, fun hs => ?_, h4, Nat.le_of_ble_eq_true h5, ⟨h6, h7, h8⟩, h9⟩
  · rw [hs] at h3
    simpa using h3
  · rw [hs] at h3
    simpa only [Bool.and_eq_true, decide_eq_true_eq] using h3
theorem wsM_good {a : Nat} (h : a < nM) : GoodIn lw_g (wsM a) := by
  intro w hw
  have hm : w ∈ lw_g := by
    rcases List.mem_cons.mp hw with rfl | hw
    · exact List.mem_filter.mpr ⟨List.mem_of_getElem? (inf_facts h).1.1, rfl⟩
    · exact hw
  exact ⟨hm, good_of_word (List.mem_filter.mp hm).2⟩
theorem popA_spec : ∀ {n : Nat} {acc st vs rest : List AV}, popA n acc st = some (vs, rest) → ∃ xs, st = xs ++ rest ∧ vs = xs.reverse ++ acc ∧ xs.length = n
  | 0, acc, st, vs, rest, h => by
    cases h
    exact ⟨[], rfl, rfl, rfl⟩
  | n + 1, acc, [], vs, rest, h => by cases h
  | n + 1, acc, v :: st, vs, rest, h => by
    obtain ⟨xs, h1, h2, h3⟩ := popA_spec (n := n) (acc := v :: acc) (st := st) h
    exact ⟨v :: xs, by rw [h1]; rfl, by rw [h2]; simp, by rw [List.length_cons, h3]⟩
theorem catS_eq (as : Ad) : ∀ st : List AV, ((st.map (cv as)).map fun v => v.category).sum = catS st
  | [] => rfl
  | .inl x :: st => by
    simp only [List.map_cons, List.sum_cons]
    rw [catS_eq as st]
    exact Nat.add_comm _ _
  | .inr (.inl x) :: st => by
    simp only [List.map_cons, List.sum_cons]
    rw [catS_eq as st]
    exact Nat.add_comm _ _
  | .inr (.inr x) :: st => by
    simp only [List.map_cons, List.sum_cons]
    rw [catS_eq as st]
    exact Nat.add_comm _ _
theorem Po_blind {sd : Bool} {D : va_G} {cs : Cs} {as : Ad} {σ : Sg} {sz : Nat} {vs : List AV} : FrameBlind (Po sd D cs as σ sz vs) := by
  intro a U g mk q
  obtain ⟨q0, q1, qP, qK, qD⟩ := q
  exact ⟨q0, q1, qP, va_K.moved (u := U) (U := U.calling g mk a) (Vm.Alike.refl U.vm) qK, qD⟩
theorem Aof_up {sd : Bool} {as : Ad} {a b : Nat} (h : a ≤ b) : ∀ q, Aof sd as b q → Aof sd as a q := fun q hq => hq.imp id (fun hq => Nat.le_trans h hq)
theorem conc_A {sd : Bool} {D : va_G} {cs : Cs} {as : Ad} {σ : Sg} {A : Nat → Prop} {sz : Nat} (h : va_D A (conc sd cs as σ)) : va_D (Aof sd as sz) (conc sd cs as σ) := by
  refine ⟨h.1, fun k q hk => ?_⟩
  have hm := List.mem_of_getElem? hk
  obtain ⟨c, hc, rfl⟩ := List.mem_map.mp hm
  exact Or.inl ⟨c, hc, rfl⟩
theorem call_fin {p : Program} {l : Launch} {e : Env} {R : Room} {s : State} {m : MethodId} {args : Array Value} {below : List Frame} {meth : Method} {c : Code} {H : Heap} {locs : List Loc} {Q : State → Prop} {pc : Nat} {ls : Array Slot} {st0 : List Value} {rest : List AV} {sd : Bool} {D : va_G} {cs : Cs} {as : Ad} {r : Option AV} {σ1 : Sg} {a : Array Value}
    (hr : va_Run p l e R s m args below meth c H locs 0 0 0 0 (F0 m pc ls st0) (rest.map (cv as)) (Qo sd D cs as H.size r σ1 a) (Aof sd as H.size)) (hS : va_S (Aof sd as s.heap.size) s.heap H locs)
    (kk : ∀ H1 locs1, Wl sd D cs as σ1 (Aof sd as s.heap.size) s H1 → va_S (Aof sd as s.heap.size) s.heap H1 locs1 → W p l e R s m args below meth c H1 locs1 0 0 Q (F0 m (pc + 3) ls ((r.toList ++ rest).map (cv as)))) : W p l e R s m args below meth c H locs 0 0 Q (F0 m pc ls st0) := by
  have fin : ∀ (t : State) (H1 : Heap), t.heap = H1 → s.vm.Alike t.vm → Bq sd D cs as σ1 (Aof sd as H.size) () t → Wl sd D cs as σ1 (Aof sd as s.heap.size) s H1 := fun t H1 ht hvm hb => by
    obtain ⟨b1, b2, b3⟩ := hb
    exact ⟨ht ▸ b1, va_K.moved hvm.symm b2, b3.weaken (fun k q _ hq => Aof_up hS.1 _ hq)⟩
  have hA : ∀ q, q < H.size → Aof sd as H.size q → Aof sd as s.heap.size q := fun q _ h => Aof_up hS.1 q h
  have hf : ∀ q, Aof sd as H.size q → Aof sd as s.heap.size q := fun q h => Aof_up hS.1 q h
  rcases r with _ | x | x | x
  · exact va_callv (a := a) (S := Unit) (post := fun _ => True) (B := Bq sd D cs as σ1 (Aof sd as H.size)) hr hS hA hf (fun u t H1 locs1 ht hvm _ hb _ _ hS1 => kk H1 locs1 (fin t H1 ht hvm hb) hS1)
  · refine va_calli (a := a) (S := Unit) (post := fun y _ => y = x) (B := Bq sd D cs as σ1 (Aof sd as H.size)) hr hS hA hf (fun y u t H1 locs1 ht hvm hy hb _ _ hS1 => ?_)
    subst hy
    exact kk H1 locs1 (fin t H1 ht hvm hb) hS1
  · refine va_calll (a := a) (S := Unit) (post := fun y _ => y = x) (B := Bq sd D cs as σ1 (Aof sd as H.size)) hr hS hA hf (fun y u t H1 locs1 ht hvm hy hb _ _ hS1 => ?_)
    subst hy
    exact kk H1 locs1 (fin t H1 ht hvm hb) hS1
  · intro T hT X
    obtain ⟨v, st₀, t, T', L, h0, X', hL, e1, e2, hq, st⟩ := hr T hT X
    exact hq.elim
theorem sn_invokestatic {sd : Bool} {mid i pc a b : Nat} {P : Option AV → Sg → Prop} {v : Int32} {ps : List (Int32 × Nat)} {po : Nat} {L : Lc} {st : List AV} {σ : Sg} {J : Nat → Lc → List AV → Sg → Prop} {N : Lc → List AV → Sg → Prop} (hm : mid < nM) {n : Nat} (he : (mD mid)[i]? = some (pc, .invokestatic n, a, b, v, ps, po)) (hJ : ∀ t L st σ, J t L st σ → G sd mid P t L st σ) (hN : ∀ L st σ, N L st σ → (∃ e', (mD mid)[i + 1]? = some e') ∧ G sd mid P (i + 1) L st σ) (h : stepw sd (mH mid) (mR mid) P J N a b v ps L st σ (.invokestatic n)) : G sd mid P i L st σ := by
  obtain ⟨hp, ha, h1, h2⟩ := ent_facts hm he
  obtain ⟨hdg, hnx⟩ := h1 rfl
  unfold stepw at h
  dsimp only at h
  clear he h1
  revert ha h
  match b with
  | 0 =>
    intro h ha
    simp only [argOk, Bool.and_eq_true, decide_eq_true_eq] at ha
    replace h : callSt sd (mH mid) (fun st' σ' => N L st' σ') a st σ := h
    unfold callSt at h
    obtain ⟨hlk, hst⟩ := ha
    split at h
    next vs rest hpop =>
      split at h
      next hc =>
        simp only [Bool.and_eq_true, Nat.blt_eq, Nat.ble_eq] at hc
        obtain ⟨hh, han, hcat⟩ := hc
        obtain ⟨r, σ1, hev, h⟩ := h
        obtain ⟨xs, hx1, hx2, hx3⟩ := popA_spec hpop
        rw [List.append_nil] at hx2
        obtain ⟨⟨i1, i2⟩, i3, i4, i5, i6, i7, i8⟩ := inf_facts han
        refine fallS hp hnx (hN _ _ _ h) (fun p l e s m args below meth c H locs ls D cs as d' Q hd hC hW hS hsz kk => ?_)
        obtain ⟨d2, rfl⟩ : ∃ d2, d' = d2 + 1 := ⟨d' - 1, by omega⟩
        refine call_fin (rest := rest) (va_runS (As := vs.map (cv as)) (n := mP a) (nL := mN mid) (Ts := lw_g) ⟨hC.1, hC.2.1, hC.2.2.2.1, hC.2.2.2.2.1, hC.2.2.2.2.2.1⟩ (hev l D cs as H.size d2 (by omega)) ⟨callB_of (mP a) hC.2.2.2.2.2.1 (wsM_good han) rfl rfl rfl (hts_at hC.2.2.2.2.2.1 i2) (hts_at hC.2.2.2.2.2.1 hlk) i7 ⟨Nat.le_refl _, by show 8 + (mN a + 11) + 38 * d2 ≤ 38 * (d2 + 1); omega⟩, hts_at hC.2.2.2.2.2.1 (i3 hst)⟩ ⟨Po_blind, fun U hU hWm => ⟨rfl, by rw [hU], by rw [hU]; exact hW.1, va_K.moved hWm.alike hW.2.1, hW.2.2.weaken (fun _ _ _ _ => trivial)⟩⟩ rfl (by rw [List.length_map, hx2, List.length_reverse, hx3]) (hsz.trans hC.2.2.2.1) (by rw [hx1, hx2, List.map_append, List.map_reverse, List.reverse_reverse]) (lv_room (by rw [catS_eq]; exact hcat)) hdg ⟨Nat.le_refl _, Nat.le_refl _⟩) hS (fun H1 locs1 hW1 hS1 => kk H1 locs1 hW1 hS1)
      next => exact h.elim
    next => exact h.elim
  | 1 =>
    intro h ha
    simp only [argOk, decide_eq_true_eq] at ha
    replace h : mth1 (mH mid) mAbs (fun st' => N L st' σ) st := h
    unfold mth1 at h
    split at h
    next x rest =>
      split at h
      next hc =>
        simp only [Bool.and_eq_true, Nat.blt_eq, Nat.ble_eq] at hc
        obtain ⟨hh, hcat⟩ := hc
        refine fallS hp hnx (hN _ _ _ h) (fun p l e s m args below meth c H locs ls D cs as d' Q hd hC hW hS hsz kk => ?_)
        refine va_mabs hC.1 hC.2.1 hsz.symm hC.2.2.2.2.1 (hts_at hC.2.2.2.2.2.1 ha) (hts_at hC.2.2.2.2.2.1 mw_abs.1) (hts_at hC.2.2.2.2.2.1 mw_abs.2.1) (hts_at hC.2.2.2.2.2.1 mw_abs.2.2) (by show 1 ≤ d'; omega) (by rw [catS_eq]; show catS rest + 13 ≤ 38 * d'; omega) (Nat.zero_le _) (Nat.zero_le _) hdg (kk H locs hW hS)
      next => exact h.elim
    next => exact h.elim
  | 2 =>
    intro h ha
    simp only [argOk, decide_eq_true_eq] at ha
    replace h : mth2 (mH mid) mMax (fun st' => N L st' σ) st := h
    unfold mth2 at h
    split at h
    next y x rest =>
      split at h
      next hc =>
        simp only [Bool.and_eq_true, Nat.blt_eq, Nat.ble_eq] at hc
        obtain ⟨hh, hcat⟩ := hc
        refine fallS hp hnx (hN _ _ _ h) (fun p l e s m args below meth c H locs ls D cs as d' Q hd hC hW hS hsz kk => ?_)
        refine va_mmax hC.1 hC.2.1 hsz.symm hC.2.2.2.2.1 (hts_at hC.2.2.2.2.2.1 ha) (hts_at hC.2.2.2.2.2.1 mw_max.1) (hts_at hC.2.2.2.2.2.1 mw_max.2.1) (hts_at hC.2.2.2.2.2.1 mw_max.2.2) (by show 1 ≤ d'; omega) (by rw [catS_eq]; show catS rest + 13 ≤ 38 * d'; omega) (Nat.zero_le _) (Nat.zero_le _) hdg (kk H locs hW hS)
      next => exact h.elim
    next => exact h.elim
  | 3 =>
    intro h ha
    simp only [argOk, decide_eq_true_eq] at ha
    replace h : mth2 (mH mid) mMin (fun st' => N L st' σ) st := h
    unfold mth2 at h
    split at h
    next y x rest =>
      split at h
      next hc =>
        simp only [Bool.and_eq_true, Nat.blt_eq, Nat.ble_eq] at hc
        obtain ⟨hh, hcat⟩ := hc
        refine fallS hp hnx (hN _ _ _ h) (fun p l e s m args below meth c H locs ls D cs as d' Q hd hC hW hS hsz kk => ?_)
        refine va_mmin hC.1 hC.2.1 hsz.symm hC.2.2.2.2.1 (hts_at hC.2.2.2.2.2.1 ha) (hts_at hC.2.2.2.2.2.1 mw_min.1) (hts_at hC.2.2.2.2.2.1 mw_min.2.1) (hts_at hC.2.2.2.2.2.1 mw_min.2.2) (by show 1 ≤ d'; omega) (by rw [catS_eq]; show catS rest + 13 ≤ 38 * d'; omega) (Nat.zero_le _) (Nat.zero_le _) hdg (kk H locs hW hS)
      next => exact h.elim
    next => exact h.elim
  | b + 4 => intro h ha; exact h.elim
theorem sn_invokevirtual {sd : Bool} {mid i pc a b : Nat} {P : Option AV → Sg → Prop} {v : Int32} {ps : List (Int32 × Nat)} {po : Nat} {L : Lc} {st : List AV} {σ : Sg} {J : Nat → Lc → List AV → Sg → Prop} {N : Lc → List AV → Sg → Prop} (hm : mid < nM) {n : Nat} (he : (mD mid)[i]? = some (pc, .invokevirtual n, a, b, v, ps, po)) (hJ : ∀ t L st σ, J t L st σ → G sd mid P t L st σ) (hN : ∀ L st σ, N L st σ → (∃ e', (mD mid)[i + 1]? = some e') ∧ G sd mid P (i + 1) L st σ) (h : stepw sd (mH mid) (mR mid) P J N a b v ps L st σ (.invokevirtual n)) : G sd mid P i L st σ := by
  obtain ⟨hp, ha, h1, h2⟩ := ent_facts hm he
  obtain ⟨hdg, hnx⟩ := h1 rfl
  simp only [argOk, Bool.and_eq_true, decide_eq_true_eq] at ha
  obtain ⟨hlk, hst⟩ := ha
  unfold stepw at h
  dsimp only at h
  split at h
  next vs k d i' rest hpop =>
    split at h
    next ci fs ho =>
      split at h
      next hc =>
        simp only [Bool.and_eq_true, Nat.blt_eq, Nat.ble_eq, beq_iff_eq] at hc
        obtain ⟨hh, han, hcat, hci⟩ := hc
        obtain ⟨r, σ1, hev, h⟩ := h
        obtain ⟨xs, hx1, hx2, hx3⟩ := popA_spec hpop
        rw [List.append_nil] at hx2
        obtain ⟨⟨i1, i2⟩, i3, i4, i5, i6, i7, i8⟩ := inf_facts han
        obtain ⟨j1, j2, j3⟩ := i4 hst
        subst hci
        refine fallS hp hnx (hN _ _ _ h) (fun p l e s m args below meth c H locs ls D cs as d' Q hd hC hW hS hsz kk => ?_)
        obtain ⟨d2, rfl⟩ : ∃ d2, d' = d2 + 1 := ⟨d' - 1, by omega⟩
        obtain ⟨g1, g2⟩ := objC_spec ho cs as
        obtain ⟨q0, -, hq0⟩ := conc_get (cs := cs) (as := as) (σ := σ) g1
        rw [show cel cs as σ (k, d, i').1 (k, d, i').2.1 (k, d, i').2.2 = _ from g2 σ] at hq0
        obtain ⟨cq, hcq, hcn⟩ : ∃ cq, classes[mK a]? = some cq ∧ cq.1 = (mY a).cls := by
          cases hz : classes[mK a]? with
          | none => rw [hz] at j3; cases j3
          | some cq => rw [hz] at j3; exact ⟨cq, rfl, Option.some.inj j3⟩
        have hrecv := va_recv hW.2.1 hW.1 hcq hq0
        rw [hcn] at hrecv
        refine call_fin (rest := rest) (va_runV (As := vs.map (cv as)) (b := as k d i') (C := (mY a).cls) (n := mP a) (nL := mN mid) (Ts := lw_g) ⟨hC.1, hC.2.1, hC.2.2.2.1, hC.2.2.2.2.1, hC.2.2.2.2.2.1⟩ (hev l D cs as H.size d2 (by omega)) ⟨callB_of (mP a) hC.2.2.2.2.2.1 (wsM_good han) rfl rfl rfl (hts_at hC.2.2.2.2.2.1 i2) (hts_at hC.2.2.2.2.2.1 hlk) i7 ⟨Nat.le_refl _, by show 8 + (mN a + 11) + 38 * d2 ≤ 38 * (d2 + 1); omega⟩, hts_at hC.2.2.2.2.2.1 j1, hts_at hC.2.2.2.2.2.1 j2⟩ ⟨Po_blind, hrecv, fun U hU hWm => ⟨rfl, by rw [hU], by rw [hU]; exact hW.1, va_K.moved hWm.alike hW.2.1, hW.2.2.weaken (fun _ _ _ _ => trivial)⟩⟩ rfl (by rw [List.length_map, hx2, List.length_reverse, hx3]) (hsz.trans hC.2.2.2.1) (by rw [hx1, hx2, List.map_append, List.map_reverse, List.reverse_reverse]; rfl) (lv_room (by rw [catS_eq]; exact hcat)) hdg ⟨Nat.le_refl _, Nat.le_refl _⟩) hS (fun H1 locs1 hW1 hS1 => kk H1 locs1 hW1 hS1)
      next => exact h.elim
    next => exact h.elim
  next => exact h.elim
theorem sn_ireturn {sd : Bool} {mid i pc a b : Nat} {P : Option AV → Sg → Prop} {v : Int32} {ps : List (Int32 × Nat)} {po : Nat} {L : Lc} {st : List AV} {σ : Sg} {J : Nat → Lc → List AV → Sg → Prop} {N : Lc → List AV → Sg → Prop} (hm : mid < nM) (he : (mD mid)[i]? = some (pc, .ireturn, a, b, v, ps, po)) (hJ : ∀ t L st σ, J t L st σ → G sd mid P t L st σ) (hN : ∀ L st σ, N L st σ → (∃ e', (mD mid)[i + 1]? = some e') ∧ G sd mid P (i + 1) L st σ) (h : stepw sd (mH mid) (mR mid) P J N a b v ps L st σ (.ireturn)) : G sd mid P i L st σ := by
  obtain ⟨hp, ha, h1, h2⟩ := ent_facts hm he
  obtain ⟨hdg, hnx⟩ := h1 rfl
  unfold stepw at h
  dsimp only at h
  split at h
  next x =>
    split at h
    next hrt =>
      obtain ⟨hx, h⟩ := h
      refine ⟨some (.inl x), σ, h, ?_⟩
      intro p l e s m args below meth c H locs ls D cs as d hd hC hW hS hl
      rw [hp]
      exact W.zret (ty := .boolean) hC.1 hC.2.1 (hC.2.2.1.trans hrt) (by rcases hx with rfl | rfl <;> rfl) (fun t ht hWm => ⟨⟨x, (), rfl, rfl, by rw [ht]; exact hW.1, va_K.moved hWm.alike hW.2.1, hW.2.2⟩, hS.F ht⟩) hS.2.2 hdg hC.2.2.2.2.2.2
    next hrt =>
      refine ⟨some (.inl x), σ, h, ?_⟩
      intro p l e s m args below meth c H locs ls D cs as d hd hC hW hS hl
      rw [hp]
      exact W.zret (ty := .int) hC.1 hC.2.1 (hC.2.2.1.trans hrt) rfl (fun t ht hWm => ⟨⟨x, (), rfl, rfl, by rw [ht]; exact hW.1, va_K.moved hWm.alike hW.2.1, hW.2.2⟩, hS.F ht⟩) hS.2.2 hdg hC.2.2.2.2.2.2
    next => exact h.elim
  next => exact h.elim
theorem sn_lreturn {sd : Bool} {mid i pc a b : Nat} {P : Option AV → Sg → Prop} {v : Int32} {ps : List (Int32 × Nat)} {po : Nat} {L : Lc} {st : List AV} {σ : Sg} {J : Nat → Lc → List AV → Sg → Prop} {N : Lc → List AV → Sg → Prop} (hm : mid < nM) (he : (mD mid)[i]? = some (pc, .lreturn, a, b, v, ps, po)) (hJ : ∀ t L st σ, J t L st σ → G sd mid P t L st σ) (hN : ∀ L st σ, N L st σ → (∃ e', (mD mid)[i + 1]? = some e') ∧ G sd mid P (i + 1) L st σ) (h : stepw sd (mH mid) (mR mid) P J N a b v ps L st σ (.lreturn)) : G sd mid P i L st σ := by
  obtain ⟨hp, ha, h1, h2⟩ := ent_facts hm he
  obtain ⟨hdg, hnx⟩ := h1 rfl
  unfold stepw at h
  dsimp only at h
  split at h
  next x =>
    split at h
    next hrt =>
      refine ⟨some (.inr (.inl x)), σ, h, ?_⟩
      intro p l e s m args below meth c H locs ls D cs as d hd hC hW hS hl
      rw [hp]
      exact W.lret hC.1 hC.2.1 (hC.2.2.1.trans hrt) (fun t ht hWm => ⟨⟨x, (), rfl, rfl, by rw [ht]; exact hW.1, va_K.moved hWm.alike hW.2.1, hW.2.2⟩, hS.F ht⟩) hS.2.2 hdg hC.2.2.2.2.2.2
    next => exact h.elim
  next => exact h.elim
theorem sn_return_ {sd : Bool} {mid i pc a b : Nat} {P : Option AV → Sg → Prop} {v : Int32} {ps : List (Int32 × Nat)} {po : Nat} {L : Lc} {st : List AV} {σ : Sg} {J : Nat → Lc → List AV → Sg → Prop} {N : Lc → List AV → Sg → Prop} (hm : mid < nM) (he : (mD mid)[i]? = some (pc, .return_, a, b, v, ps, po)) (hJ : ∀ t L st σ, J t L st σ → G sd mid P t L st σ) (hN : ∀ L st σ, N L st σ → (∃ e', (mD mid)[i + 1]? = some e') ∧ G sd mid P (i + 1) L st σ) (h : stepw sd (mH mid) (mR mid) P J N a b v ps L st σ (.return_)) : G sd mid P i L st σ := by
  obtain ⟨hp, ha, h1, h2⟩ := ent_facts hm he
  obtain ⟨hdg, hnx⟩ := h1 rfl
  unfold stepw at h
  dsimp only at h
  split at h
  next =>
    split at h
    next hrt =>
      refine ⟨none, σ, h, ?_⟩
      intro p l e s m args below meth c H locs ls D cs as d hd hC hW hS hl
      rw [hp]
      exact W.vret hC.1 hC.2.1 (hC.2.2.1.trans hrt) (fun t ht hWm => ⟨⟨(), rfl, trivial, by rw [ht]; exact hW.1, va_K.moved hWm.alike hW.2.1, hW.2.2⟩, hS.F ht⟩) hS.2.2 hdg hC.2.2.2.2.2.2
    next => exact h.elim
  next => exact h.elim
theorem stepw_snd {sd : Bool} {mid i pc a b : Nat} {P : Option AV → Sg → Prop} {v : Int32} {ps : List (Int32 × Nat)} {po : Nat} {L : Lc} {st : List AV} {σ : Sg} {J : Nat → Lc → List AV → Sg → Prop} {N : Lc → List AV → Sg → Prop} {ins : Instr} (hm : mid < nM) (he : (mD mid)[i]? = some (pc, ins, a, b, v, ps, po)) (hJ : ∀ t L st σ, J t L st σ → G sd mid P t L st σ) (hN : ∀ L st σ, N L st σ → (∃ e', (mD mid)[i + 1]? = some e') ∧ G sd mid P (i + 1) L st σ) (h : stepw sd (mH mid) (mR mid) P J N a b v ps L st σ ins) : G sd mid P i L st σ := by
  cases ins with
  | iconst _ => exact sn_iconst hm he hJ hN h
  | bipush _ => exact sn_bipush hm he hJ hN h
  | sipush _ => exact sn_sipush hm he hJ hN h
  | ldc _ => exact sn_ldc hm he hJ hN h
  | ldc_w _ => exact sn_ldc_w hm he hJ hN h
  | ldc2_w _ => exact sn_ldc2_w hm he hJ hN h
  | iload _ => exact sn_iload hm he hJ hN h
  | iload_n _ => exact sn_iload_n hm he hJ hN h
  | lload _ => exact sn_lload hm he hJ hN h
  | lload_n _ => exact sn_lload_n hm he hJ hN h
  | aload _ => exact sn_aload hm he hJ hN h
  | aload_n _ => exact sn_aload_n hm he hJ hN h
  | istore _ => exact sn_istore hm he hJ hN h
  | istore_n _ => exact sn_istore_n hm he hJ hN h
  | astore _ => exact sn_astore hm he hJ hN h
  | astore_n _ => exact sn_astore_n hm he hJ hN h
  | lstore _ => exact sn_lstore hm he hJ hN h
  | lstore_n _ => exact sn_lstore_n hm he hJ hN h
  | iinc _ _ => exact sn_iinc hm he hJ hN h
  | iadd => exact sn_iadd hm he hJ hN h
  | isub => exact sn_isub hm he hJ hN h
  | imul => exact sn_imul hm he hJ hN h
  | iand => exact sn_iand hm he hJ hN h
  | ior => exact sn_ior hm he hJ hN h
  | ishl => exact sn_ishl hm he hJ hN h
  | ishr => exact sn_ishr hm he hJ hN h
  | iushr => exact sn_iushr hm he hJ hN h
  | ladd => exact sn_ladd hm he hJ hN h
  | lmul => exact sn_lmul hm he hJ hN h
  | idiv => exact sn_idiv hm he hJ hN h
  | irem => exact sn_irem hm he hJ hN h
  | ineg => exact sn_ineg hm he hJ hN h
  | i2l => exact sn_i2l hm he hJ hN h
  | dup => exact sn_dup hm he hJ hN h
  | dup2 => exact sn_dup2 hm he hJ hN h
  | goto _ => exact sn_goto hm he hJ hN h
  | if_icmp _ _ => exact sn_if_icmp hm he hJ hN h
  | ifCond _ _ => exact sn_ifCond hm he hJ hN h
  | tableswitch _ _ _ _ => exact sn_tableswitch hm he hJ hN h
  | lookupswitch _ _ => exact sn_lookupswitch hm he hJ hN h
  | getfield _ => exact sn_getfield hm he hJ hN h
  | putfield _ => exact sn_putfield hm he hJ hN h
  | iaload => exact sn_iaload hm he hJ hN h
  | baload => exact sn_baload hm he hJ hN h
  | iastore => exact sn_iastore hm he hJ hN h
  | bastore => exact sn_bastore hm he hJ hN h
  | aaload => exact sn_aaload hm he hJ hN h
  | arraylength => exact sn_arraylength hm he hJ hN h
  | invokestatic _ => exact sn_invokestatic hm he hJ hN h
  | invokevirtual _ => exact sn_invokevirtual hm he hJ hN h
  | ireturn => exact sn_ireturn hm he hJ hN h
  | lreturn => exact sn_lreturn hm he hJ hN h
  | return_ => exact sn_return_ hm he hJ hN h
  | _ => exact (h : False).elim
theorem mD_at {mid i : Nat} (h : i < mL mid) : (mD mid)[i]? = some (mE mid i) := by
  unfold mD
  rw [List.getElem?_map, List.getElem?_range h]
  rfl
theorem wp_snd {sd : Bool} {mid : Nat} {P : Option AV → Sg → Prop} {K : Nat → Lc → List AV → Sg → Prop} {cuts : List Nat} (hm : mid < nM) (hK : ∀ i L st σ, K i L st σ → G sd mid P i L st σ) : ∀ (n i : Nat) (L : Lc) (st : List AV) (σ : Sg), wp sd (mH mid) (mR mid) (mE mid) (mL mid) P K cuts n i L st σ → G sd mid P i L st σ
  | 0, i, L, st, σ, h => hK i L st σ h
  | n + 1, i, L, st, σ, h => by
    unfold wp at h
    split at h
    next => exact h.elim
    next hlt =>
      have he := mD_at (Nat.blt_eq.mp hlt)
      cases hx : mE mid i with
      | mk pc x =>
        obtain ⟨ins, a, b, v, ps, po⟩ := x
        rw [hx] at he h
        dsimp only at h
        refine stepw_snd hm he (fun t L' st' σ' hj => ?_) (fun L' st' σ' hn => ?_) h
        · split at hj
          next => exact hK t L' st' σ' hj
          next => exact wp_snd hm hK n t L' st' σ' hj
        · split at hn
          next => exact hn.elim
          next hl _ => exact ⟨⟨_, mD_at (Nat.blt_eq.mp hl)⟩, hK (i + 1) L' st' σ' hn⟩
          next hl _ => exact ⟨⟨_, mD_at (Nat.blt_eq.mp hl)⟩, wp_snd hm hK n (i + 1) L' st' σ' hn⟩
theorem Ev_of_Gd {sd : Bool} {mid : Nat} {vs : List AV} {σ σ' : Sg} {r : Option AV} (hm : mid < nM) (hlen : (argL vs).length ≤ mN mid) (h : Gd sd mid r σ' 0 (initL (mN mid) vs) [] σ) : Ev sd mid vs σ r σ' := by
  intro l D cs as sz d hd
  obtain ⟨-, -, -, i5, -, -, i8⟩ := inf_facts hm
  refine Met.ofW (cc := mC mid) (maxL := mN mid) (ret := mR mid) i5 rfl ?_
  intro p e s m args below meth c s₁ B hml hv
  obtain ⟨rfl, hsz, hP, hK, hD⟩ := hv
  subst hsz
  have hts := atoms_spec (ws := wsM mid) B.pre
  have h0 : pcM mid 0 = 0 := by unfold pcM; rw [i8]; rfl
  have := h p l e s m (vs.map (cv as)).toArray below meth c s.heap [] _ D cs as d hd ⟨B.exec, B.bytes, B.returns, hml, findClass_of_methodNamed B.named, fun w hw => hts w (List.mem_cons_of_mem _ hw), B.notSynchronized⟩ ⟨hP, hK, conc_A (D := D) hD⟩ va_S.rf (hasL_init hlen)
  rw [h0] at this
  rw [lg_entry_eq]
  exact this
theorem Ev_of_G {sd : Bool} {mid : Nat} {vs : List AV} {σ : Sg} {P : Option AV → Sg → Prop} (hm : mid < nM) (hlen : (argL vs).length ≤ mN mid) (h : G sd mid P 0 (initL (mN mid) vs) [] σ) : ∃ r σ', P r σ' ∧ Ev sd mid vs σ r σ' := by
  obtain ⟨r, σ', hp, hg⟩ := h
  exact ⟨r, σ', hp, Ev_of_Gd hm hlen hg⟩
