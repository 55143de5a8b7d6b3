/-! The law's rows: both worlds, and the script. -/
/-- both worlds in the law: all that it made lies where nothing lay -/
def Lw (D : va_G) (cs : Cs) (aC aM : Ad) (σ τ : Sg) (s : State) (H : Heap) (locs : List Loc) : Prop :=
  (va_P D classes (conc false cs aC σ) H ∧ va_D (fun q => s.heap.size ≤ q) (conc false cs aC σ)) ∧ (va_P D classes (conc true cs aM τ) H ∧ va_D (fun q => s.heap.size ≤ q) (conc true cs aM τ)) ∧ va_K D classes (tysOf cs) s ∧ va_S (fun q => s.heap.size ≤ q) s.heap H locs ∧ ∀ c ∈ lbs false, ∀ c' ∈ lbs true, ¬ aC c.1 c.2.1 c.2.2 = aM c'.1 c'.2.1 c'.2.2
def rv : Int32 ⊕ Int64 → AV
  | .inl x => .inl x
  | .inr y => .inr (.inl y)
def rV : Int32 ⊕ Int64 → Value
  | .inl x => .int x
  | .inr y => .long y
def bz (x : Int32) : Int32 := if x = 0 then nI 0 else nI 1
theorem bz_or (x : Int32) : bz x = nI 0 ∨ bz x = nI 1 := by
  unfold bz
  split
  · exact Or.inl rfl
  · exact Or.inr rfl
theorem conc_lt {sd : Bool} {D : va_G} {cs : Cs} {as : Ad} {σ : Sg} {H : Heap} (hP : va_P D classes (conc sd cs as σ) H) {c : Lb} (hc : c ∈ lbs sd) : as c.1 c.2.1 c.2.2 < H.size := by
  obtain ⟨k, -, hk⟩ := conc_get (cs := cs) (as := as) (σ := σ) hc
  exact (hP k _ hk).lt
theorem conc_C0 (cs : Cs) (as : Ad) (σ : Sg) : (conc false cs as σ)[0]? = some (as 0 false 0, .inr (11, [.ref (as 1 false 0), .ref (as 12 false 0), .ref (as 21 false 0), .ref (as 26 false 0), .ref (as 26 true 0), .ref (as 48 false 0), .ref (as 51 false 0), .ref (as 56 false 0), .ref (as 59 false 0), .ref (as 66 false 0)])) := rfl
section LawRows
variable {p : Program} {l : Launch} {e : Env} {R : Room} {s : State} {m : MethodId} {args : Array Value} {below : List Frame} {meth : Method} {c : Code} {H : Heap} {locs : List Loc} {cells slots : Nat} {Q : State → Prop}
variable {D : va_G} {cs : Cs} {own : String} {cc : ByteArray} {nL pc : Nat} {ls : Array Slot} {rest : List Value}
theorem kr_lcmp (hexec : p.tables.exec = Jvm.exec) (hb : c.code = cc) {x : Int64} (hdg : decode cc pc = .ok (.lcmp, 1)) (k : W p l e R s m args below meth c H locs cells slots Q (F0 m (pc + 1) ls (.int 0 :: rest))) : W p l e R s m args below meth c H locs cells slots Q (F0 m pc ls (.long x :: .long x :: rest)) := by
  intro T hT X
  obtain ⟨t, a, b⟩ := k T hT X
  refine ⟨t, ?_, b⟩
  jvm_step X.here [X.here.top, hexec, hb, hdg]
  exact a
theorem lw_run (hC : Cw own cc nL p s m args c) {sd : Bool} {as : Ad} {σ σ2 : Sg} {r : Int32 ⊕ Int64} {mid k idx w1 ci : Nat} {fs : List Value} {vs : List AV} {st : List Value} (hP : va_P D classes (conc sd cs as σ) H) (hD : va_D (fun q => s.heap.size ≤ q) (conc sd cs as σ)) (hK : va_K D classes (tysOf cs) s) (hS : va_S (fun q => s.heap.size ≤ q) s.heap H locs)
    (ev : Ev sd mid (.inr (.inr (k, false, 0)) :: vs) σ (some (rv r)) σ2) (hm : mid < nM) (hSt : mS mid = false) (hq0 : (conc sd cs as σ)[0]? = some (as k false 0, .inr (ci, fs))) (hci : (classes[ci]?).map Prod.fst = some (mY mid).cls) (hmp : mP mid = vs.length) (hd : mH mid ≤ 8) (h1 : wAt w1 = some (.methodLink own idx (mY mid))) (hRm : 9 ≤ R.frames ∧ 342 ≤ R.locals) (hc : cells ≤ R.cells) (hs : slots ≤ R.slots) (hsz : ls.size = nL) (hcat : (rest.map fun v => v.category).sum ≤ 8) (hst : st = (vs.map (cv as)).reverse ++ .ref (as k false 0) :: rest) (hdg : decode cc pc = .ok (.invokevirtual idx, 3))
    (kk : ∀ (H1 : Heap) (locs1 : List Loc), va_P D classes (conc sd cs as σ2) H1 → va_D (fun q => s.heap.size ≤ q) (conc sd cs as σ2) → va_S (fun q => s.heap.size ≤ q) s.heap H1 locs1 → (∀ q, q < H.size → ¬ Aof sd as H.size q → H1[q]? = H[q]?) → W p l e R s m args below meth c H1 locs1 cells slots Q (F0 m (pc + 3) ls (rV r :: rest))) : W p l e R s m args below meth c H locs cells slots Q (F0 m pc ls st) := by
  obtain ⟨⟨i1, i2⟩, i3, i4, i5, i6, i7, i8⟩ := inf_facts hm
  obtain ⟨j1, j2, j3⟩ := i4 hSt
  have hAs : ∀ q, Aof sd as H.size q → s.heap.size ≤ q := by
    intro q hq
    rcases hq with ⟨c, hc, rfl⟩ | hq
    · obtain ⟨k, -, hk⟩ := conc_get (cs := cs) (as := as) (σ := σ) hc
      exact hD.2 k _ hk
    · exact Nat.le_trans hS.1 hq
  obtain ⟨cq, hcq, hcn⟩ : ∃ cq, classes[ci]? = some cq ∧ cq.1 = (mY mid).cls := by
    cases hz : classes[ci]? with
    | none => rw [hz] at hci; cases hci
    | some cq => rw [hz] at hci; exact ⟨cq, rfl, Option.some.inj hci⟩
  have hrecv := va_recv hK hP hcq hq0
  rw [hcn] at hrecv
  have hrun := va_runV (e := e) (rest := rest) (g := F0 m pc ls st) (As := vs.map (cv as)) (b := as k false 0) (C := (mY mid).cls) (n := mP mid) (nL := nL) (Ts := lw_g) hC (ev l D cs as H.size 8 hd) (R := R) (index := idx) (cells := cells) (slots := slots) (mc := 0) (ms := 0) (locs := locs) (below := below) (meth := meth) ⟨callB_of (mP mid) hC.2.2.2.2 (wsM_good hm) rfl rfl rfl (hts_at hC.2.2.2.2 i2) (hts_at hC.2.2.2.2 h1) i7 ⟨hRm.1, by show 8 + (mN mid + 11) + 38 * 8 ≤ R.locals; have := hRm.2; omega⟩, hts_at hC.2.2.2.2 j1, hts_at hC.2.2.2.2 j2⟩ ⟨Po_blind, hrecv, fun U hU hWm => ⟨rfl, by rw [hU], by rw [hU]; exact hP, va_K.moved hWm.alike hK, hD.weaken (fun _ _ _ _ => trivial)⟩⟩ rfl (by rw [List.length_map, hmp]) hsz hst (by show 2 * 0 + _ ≤ 8; omega) hdg ⟨hc, hs⟩
  have fin : ∀ (t : State) (H1 : Heap) (locs1 : List Loc), t.heap = H1 → Bq sd D cs as σ2 (Aof sd as H.size) () t → va_P D classes (conc sd cs as σ2) H1 ∧ va_D (fun q => s.heap.size ≤ q) (conc sd cs as σ2) := fun t H1 locs1 ht hb => by
    obtain ⟨b1, b2, b3⟩ := hb
    exact ⟨ht ▸ b1, b3.weaken (fun k q _ hq => hAs _ hq)⟩
  rcases r with x | x
  · refine va_calli (a := (Value.ref (as k false 0) :: vs.map (cv as)).toArray) (S := Unit) (post := fun y _ => y = x) (B := Bq sd D cs as σ2 (Aof sd as H.size)) hrun hS (fun q _ h => hAs q h) hAs (fun y u t H1 locs1 ht hvm hy hb _ hk hS1 => ?_)
    subst hy
    obtain ⟨f1, f2⟩ := fin t H1 locs1 ht hb
    exact kk H1 locs1 f1 f2 hS1 hk
  · refine va_calll (a := (Value.ref (as k false 0) :: vs.map (cv as)).toArray) (S := Unit) (post := fun y _ => y = x) (B := Bq sd D cs as σ2 (Aof sd as H.size)) hrun hS (fun q _ h => hAs q h) hAs (fun y u t H1 locs1 ht hvm hy hb _ hk hS1 => ?_)
    subst hy
    obtain ⟨f1, f2⟩ := fin t H1 locs1 ht hb
    exact kk H1 locs1 f1 f2 hS1 hk
/-- a call of the class -/
theorem lw_x (hC : Cw own cc nL p s m args c) {aC aM : Ad} {σ τ σ2 : Sg} {r : Int32 ⊕ Int64} {mid idx w1 : Nat} {vs : List AV} {st : List Value} (hW : Lw D cs aC aM σ τ s H locs)
    (ev : Ev false mid (.inr (.inr (0, false, 0)) :: vs) σ (some (rv r)) σ2) (hm : mid < nM) (hSt : mS mid = false) (hci : (classes[11]?).map Prod.fst = some (mY mid).cls) (hmp : mP mid = vs.length) (hd : mH mid ≤ 8) (h1 : wAt w1 = some (.methodLink own idx (mY mid))) (hRm : 9 ≤ R.frames ∧ 342 ≤ R.locals) (hc : cells ≤ R.cells) (hs : slots ≤ R.slots) (hsz : ls.size = nL) (hcat : (rest.map fun v => v.category).sum ≤ 8) (hst : st = (vs.map (cv aC)).reverse ++ .ref (aC 0 false 0) :: rest) (hdg : decode cc pc = .ok (.invokevirtual idx, 3))
    (kk : ∀ (H1 : Heap) (locs1 : List Loc), Lw D cs aC aM σ2 τ s H1 locs1 → W p l e R s m args below meth c H1 locs1 cells slots Q (F0 m (pc + 3) ls (rV r :: rest))) : W p l e R s m args below meth c H locs cells slots Q (F0 m pc ls st) := by
  obtain ⟨⟨p1, d1⟩, ⟨p2, d2⟩, hK, hS, hX⟩ := hW
  refine lw_run hC p1 d1 hK hS ev hm hSt (conc_C0 cs aC σ) hci hmp hd h1 hRm hc hs hsz hcat hst hdg (fun H1 locs1 f1 f2 hS1 hk => kk H1 locs1 ⟨⟨f1, f2⟩, ⟨p2.kept (fun k q hq => hk q.1 (p2 k q hq).lt ?_), d2⟩, hK, hS1, hX⟩)
  obtain ⟨c', hc', rfl⟩ := List.mem_map.mp (List.mem_of_getElem? hq)
  rintro (⟨c, hc, e⟩ | e)
  · exact hX c hc c' hc' e.symm
  · exact absurd (p2 k _ hq).lt (Nat.not_lt.mpr e)
/-- a call of the model -/
theorem lw_m (hC : Cw own cc nL p s m args c) {aC aM : Ad} {σ τ τ2 : Sg} {r : Int32 ⊕ Int64} {mid idx w1 : Nat} {vs : List AV} {st : List Value} (hW : Lw D cs aC aM σ τ s H locs)
    (ev : Ev true mid (.inr (.inr (69, false, 0)) :: vs) τ (some (rv r)) τ2) (hm : mid < nM) (hSt : mS mid = false) (hci : (classes[12]?).map Prod.fst = some (mY mid).cls) (hmp : mP mid = vs.length) (hd : mH mid ≤ 8) (h1 : wAt w1 = some (.methodLink own idx (mY mid))) (hRm : 9 ≤ R.frames ∧ 342 ≤ R.locals) (hc : cells ≤ R.cells) (hs : slots ≤ R.slots) (hsz : ls.size = nL) (hcat : (rest.map fun v => v.category).sum ≤ 8) (hst : st = (vs.map (cv aM)).reverse ++ .ref (aM 69 false 0) :: rest) (hdg : decode cc pc = .ok (.invokevirtual idx, 3))
    (kk : ∀ (H1 : Heap) (locs1 : List Loc), Lw D cs aC aM σ τ2 s H1 locs1 → W p l e R s m args below meth c H1 locs1 cells slots Q (F0 m (pc + 3) ls (rV r :: rest))) : W p l e R s m args below meth c H locs cells slots Q (F0 m pc ls st) := by
  obtain ⟨⟨p1, d1⟩, ⟨p2, d2⟩, hK, hS, hX⟩ := hW
  refine lw_run hC p2 d2 hK hS ev hm hSt (conc_M0 cs aM τ) hci hmp hd h1 hRm hc hs hsz hcat hst hdg (fun H1 locs1 f1 f2 hS1 hk => kk H1 locs1 ⟨⟨p1.kept (fun k q hq => hk q.1 (p1 k q hq).lt ?_), d1⟩, ⟨f1, f2⟩, hK, hS1, hX⟩)
  obtain ⟨c, hc, rfl⟩ := List.mem_map.mp (List.mem_of_getElem? hq)
  rintro (⟨c', hc', e⟩ | e)
  · exact hX c hc c' hc' e
  · exact absurd (p1 k _ hq).lt (Nat.not_lt.mpr e)
/-- a number of the script -/
theorem lw_arg (hC : Cw own cc nL p s m args c) {b L i k : Nat} {xs : Nat → Int32} {x1 x2 : Nat} {kI : Int} (hX : va_X b L xs s s.heap) (hbl : b < s.heap.size) (hL : L ≤ 2560) (hS : va_S (fun q => s.heap.size ≤ q) s.heap H locs) (hl : lv_has ls 4 [(3, .int (nI i)), (2, .ref x2), (1, .ref x1), (0, .ref b)]) (hik : i + k < L) (hk : Int32.ofInt kI = nI k)
    (d0 : decode cc pc = .ok (.aload_n 0, 1)) (d1 : decode cc (pc + 1) = .ok (.iload_n 3, 1)) (d2 : decode cc (pc + 1 + 1) = .ok (.iconst kI, 1)) (d3 : decode cc (pc + 1 + 1 + 1) = .ok (.iadd, 1)) (d4 : decode cc (pc + 1 + 1 + 1 + 1) = .ok (.iaload, 1))
    (kk : W p l e R s m args below meth c H locs cells slots Q (F0 m (pc + 1 + 1 + 1 + 1 + 1) ls (.int (xs (i + k)) :: rest))) : W p l e R s m args below meth c H locs cells slots Q (F0 m pc ls rest) := by
  refine lv_aload_n hC.1 hC.2.1 d0 rfl (lv_at hl 3 rfl) ?_
  refine lv_iload_n hC.1 hC.2.1 d1 rfl (lv_at hl 0 rfl) ?_
  refine lv_iconst (v := nI k) hC.1 hC.2.1 d2 hk ?_
  refine lv_iadd hC.1 hC.2.1 d3 ?_
  have e1 : nI i + nI k = nI (i + k) := (Int32.ofNat_add i k).symm
  rw [e1]
  refine va_sld hC.1 hC.2.1 hX hbl (Nat.not_le.mpr hbl) hS (nI_in hik (by omega)) d4 ?_
  rw [nI_clamp (by omega)]
  exact kk
/-- a number as a truth -/
theorem lw_bool (hC : Cw own cc nL p s m args c) {x : Int32} (d0 : decode cc pc = .ok (.ifCond .eq 7, 3)) (d1 : decode cc (pc + 3) = .ok (.iconst 1, 1)) (d2 : decode cc (pc + 3 + 1) = .ok (.goto 4, 3)) (d3 : decode cc (pc + 7) = .ok (.iconst 0, 1))
    (kk : W p l e R s m args below meth c H locs cells slots Q (F0 m (pc + 7 + 1) ls (.int (bz x) :: rest))) : W p l e R s m args below meth c H locs cells slots Q (F0 m pc ls (.int x :: rest)) := by
  refine lv_if_eq hC.1 hC.2.1 d0 (tgt := pc + 7) (by omega) (fun h => ?_) (fun h => ?_)
  · refine lv_iconst (v := nI 0) hC.1 hC.2.1 d3 rfl ?_
    unfold bz at kk
    rw [if_pos h] at kk
    exact kk
  · refine lv_iconst (v := nI 1) hC.1 hC.2.1 d1 rfl ?_
    refine lv_goto hC.1 hC.2.1 d2 (tgt := pc + 7 + 1) (by omega) ?_
    unfold bz at kk
    rw [if_neg h] at kk
    exact kk
end LawRows
