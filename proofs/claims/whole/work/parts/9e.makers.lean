/-! What makes objects: the rows of a maker's walk, on a world that grows. -/
/-- what holds of the machine in a maker -/
def Cw (own : String) (cc : ByteArray) (nL : Nat) (p : Program) (s : State) (m : MethodId) (args : Array Value) (c : Code) : Prop := p.tables.exec = Jvm.exec ∧ c.code = cc ∧ c.maxLocals = nL ∧ s.vm.findClass own = some m.cls ∧ ∀ w ∈ lw_g, w.before args s = true
def isNest : Jvm.Cond → Bool
  | .methodLinkNest _ _ _ _ => true
  | _ => false
/-- the classes of the rows of rows; the makers that a nest's classes alone may call -/
def Rk (cs : Cs) (U : State) : Prop := (∃ (KO K : Class) (ck : ClassId), U.vm.findClass "[[I" = some cs.2.2 ∧ U.vm.classes[cs.2.2]? = some KO ∧ KO.kind = .array cs.1 (.array .int) ∧ U.vm.classes[cs.1]? = some K ∧ K.kind = .array ck .int) ∧ ∀ w ∈ lw_tbl, isNest w = true → va_Nw w U
theorem Rk.warm {cs : Cs} {u U : State} (hW : u.WarmedH U.vm) (h : Rk cs u) : Rk cs U := by
  obtain ⟨⟨KO, K, ck, h1, h2, h3, h4, h5⟩, h6⟩ := h
  have hvm : u.vm.Alike U.vm := hW.alike
  obtain ⟨k1, g1, e1⟩ := hvm.2.2 _ _ h2
  obtain ⟨k2, g2, e2⟩ := hvm.2.2 _ _ h4
  refine ⟨⟨k1, k2, ck, by rw [hvm.findClass]; exact h1, g1, by rw [e1]; exact h3, g2, by rw [e2]; exact h5⟩, fun w hw hn => ?_⟩
  have hz := h6 w hw hn
  unfold isNest at hn
  split at hn
  · exact va_Nw.warmM hW hz
  · cases hn
theorem Rk.same {cs : Cs} {u U : State} (hvm : u.vm = U.vm) (h : Rk cs u) : Rk cs U := by
  obtain ⟨⟨KO, K, ck, h1, h2, h3, h4, h5⟩, h6⟩ := h
  refine ⟨⟨KO, K, ck, hvm ▸ h1, hvm ▸ h2, h3, hvm ▸ h4, h5⟩, fun w hw hn => ?_⟩
  have hz := h6 w hw hn
  unfold isNest at hn
  split at hn
  · exact va_Nw.same rfl hvm hz
  · cases hn
/-- the world of a maker, and that it may write what is new -/
def Wn (D : va_G) (cs : Cs) (A : Nat → Prop) (ws : va_W) (s : State) (H : Heap) (locs : List Loc) : Prop := (va_P D classes ws H ∧ (va_K D classes (tysOf cs) s ∧ Rk cs s) ∧ va_D A ws) ∧ va_S A s.heap H locs ∧ ∀ q, s.heap.size ≤ q → A q
section MakerRows
variable {p : Program} {l : Launch} {e : Env} {R : Room} {s : State} {m : MethodId} {args : Array Value} {below : List Frame} {meth : Method} {c : Code} {H : Heap} {locs : List Loc} {cells slots : Nat} {Q : State → Prop}
variable {D : va_G} {cs : Cs} {A : Nat → Prop} {ws : va_W} {own : String} {cc : ByteArray} {nL pc : Nat} {ls : Array Slot} {rest : List Value}
theorem kr_newI (hC : Cw own cc nL p s m args c) (hW : Wn D cs A ws s H locs) {w1 N : Nat} {n : Int32} (h1 : wAt w1 = some (.arrayClass .int)) (hn : ¬ n < 0) (hN : n.toNatClampNeg = N) (hb : N * 4 ≤ 536870912) (hc : cells + 1 ≤ R.cells) (hs : slots + N ≤ R.slots) (hdg : decode cc pc = .ok (.newarray .int, 2))
    (kk : ∀ (q : Nat) (H1 : Heap), Wn D cs A (ws ++ [(q, .inl (cs.1, N, .inl fun _ => 0))]) s H1 locs → W p l e R s m args below meth c H1 locs (cells + 1) (slots + N) Q (F0 m (pc + 2) ls (.ref q :: rest))) : W p l e R s m args below meth c H locs cells slots Q (F0 m pc ls (.int n :: rest)) := by
  refine va_newa (ty := .int) (a0 := (N, .inl fun _ => 0)) hC.1 hC.2.1 (hts_at hC.2.2.2.2 h1) rfl hW.1.2.1.1 hW.1.1 hW.1.2.2 hW.2.1 hW.2.2 (fun _ => rfl) hn hN hb hc hs hdg (fun q cA H1 hK hP hD hS => ?_)
  have e1 : s.vm.findClass ("[" ++ FieldType.int.toString) = some cA := (hK.2 3 (cA, .int) rfl).2
  have e2 : s.vm.findClass ("[" ++ FieldType.int.toString) = some cs.1 := (hW.1.2.1.1.2 0 (cs.1, .int) rfl).2
  cases e1.symm.trans e2
  exact kk q H1 ⟨⟨hP, hW.1.2.1, hD⟩, hS, hW.2.2⟩
theorem kr_newB (hC : Cw own cc nL p s m args c) (hW : Wn D cs A ws s H locs) {w1 N : Nat} {n : Int32} (h1 : wAt w1 = some (.arrayClass .boolean)) (hn : ¬ n < 0) (hN : n.toNatClampNeg = N) (hb : N * 1 ≤ 536870912) (hc : cells + 1 ≤ R.cells) (hs : slots + N ≤ R.slots) (hdg : decode cc pc = .ok (.newarray .boolean, 2))
    (kk : ∀ (q : Nat) (H1 : Heap), Wn D cs A (ws ++ [(q, .inl (cs.2.1, N, .inl fun _ => 0))]) s H1 locs → W p l e R s m args below meth c H1 locs (cells + 1) (slots + N) Q (F0 m (pc + 2) ls (.ref q :: rest))) : W p l e R s m args below meth c H locs cells slots Q (F0 m pc ls (.int n :: rest)) := by
  refine va_newa (ty := .boolean) (a0 := (N, .inl fun _ => 0)) hC.1 hC.2.1 (hts_at hC.2.2.2.2 h1) rfl hW.1.2.1.1 hW.1.1 hW.1.2.2 hW.2.1 hW.2.2 (fun _ => rfl) hn hN hb hc hs hdg (fun q cA H1 hK hP hD hS => ?_)
  have e1 : s.vm.findClass ("[" ++ FieldType.boolean.toString) = some cA := (hK.2 3 (cA, .boolean) rfl).2
  have e2 : s.vm.findClass ("[" ++ FieldType.boolean.toString) = some cs.2.1 := (hW.1.2.1.1.2 1 (cs.2.1, .boolean) rfl).2
  cases e1.symm.trans e2
  exact kk q H1 ⟨⟨hP, hW.1.2.1, hD⟩, hS, hW.2.2⟩
/-- the cells of a row of n rows of k numbers -/
def grW (cs : Cs) (q n k : Nat) : va_W := (q, .inl (cs.2.2, n, .inr (.inr (.inr (.inr fun j => if j < n then some (q + 1 + j) else none))))) :: (List.range n).map fun j => (q + 1 + j, .inl (cs.1, k, .inl fun _ => 0))
theorem kr_grid (hC : Cw own cc nL p s m args c) (hW : Wn D cs A ws s H locs) {w1 N K idx : Nat} {n k : Int32} (h1 : wAt w1 = some (.classLink own idx "[[I")) (hN : n.toNatClampNeg = N) (hK : k.toNatClampNeg = K) (hn : ¬ n < 0) (hk : ¬ k < 0) (hb : N * 4 ≤ 536870912) (hb2 : K * 4 ≤ 536870912) (hc : cells + (1 + N) ≤ R.cells) (hs : slots + (N + N * K) ≤ R.slots) (hdg : decode cc pc = .ok (.multianewarray idx 2, 4))
    (kk : ∀ (q : Nat) (H1 : Heap), Wn D cs A (ws ++ grW cs q N K) s H1 locs → W p l e R s m args below meth c H1 locs (cells + (1 + N)) (slots + (N + N * K)) Q (F0 m (pc + 4) ls (.ref q :: rest))) : W p l e R s m args below meth c H locs cells slots Q (F0 m pc ls (.int k :: .int n :: rest)) := by
  obtain ⟨KO, KI, ck, f1, f2, f3, f4, f5⟩ := hW.1.2.1.2.1
  exact va_grid hC.1 hC.2.1 hC.2.2.2.1 (hts_at hC.2.2.2.2 h1) f1 f2 f3 f4 f5 hW.1.1 hW.1.2.2 hW.2.1 hW.2.2 (Nat.le_refl _) hdg hN hK hn hk hb hb2 hc hs (fun q H1 hP hD hS => kk q H1 ⟨⟨hP, hW.1.2.1, hD⟩, hS, hW.2.2⟩)
/-- a new object's fields -/
def dfS (n : Nat) (ty : Nat → FieldType) : List Value := (List.range n).map fun j => defaultValue (ty j)
theorem dfS_at (n : Nat) (ty : Nat → FieldType) {j : Nat} (h : j < n) : defaultValue (ty j) = vp_V (dfS n ty) j := by
  have e : (dfS n ty)[j]? = some (defaultValue (ty j)) := by
    unfold dfS
    rw [List.getElem?_map, List.getElem?_range h]
    rfl
  unfold vp_V
  simp [e]
theorem kr_obj (hC : Cw own cc nL p s m args c) (hW : Wn D cs A ws s H locs) {ci idx w1 w2 w3 N : Nat} {Cn : String} {T : u_T} (hq : classes[ci]? = some (Cn, T, N)) (ty : Nat → FieldType) (hty : ∀ k, k < N → parseFieldDescriptor (T k).2.2.1 = some (ty k)) (h1 : wAt w1 = some (.classLink own idx Cn)) (h2 : wAt w2 = some (.instantiable Cn N)) (h3 : wAt w3 = some (.initialized Cn)) (hc : cells + 1 ≤ R.cells) (hs : slots + N ≤ R.slots) (hdg : decode cc pc = .ok (.new idx, 3))
    (kk : ∀ (q : Nat) (H1 : Heap), Wn D cs A (ws ++ [(q, .inr (ci, dfS N ty))]) s H1 locs → W p l e R s m args below meth c H1 locs (cells + 1) (slots + N) Q (F0 m (pc + 3) ls (.ref q :: rest))) : W p l e R s m args below meth c H locs cells slots Q (F0 m pc ls rest) :=
  va_new hC.1 hC.2.1 hC.2.2.2.2 (cls_ok hq).1 ty hty hC.2.2.2.1 (hts_at hC.2.2.2.2 h1) (hts_at hC.2.2.2.2 h2) (hts_at hC.2.2.2.2 h3) hW.1.2.1.1 hW.1.1 hW.1.2.2 hW.2.1 hW.2.2 hq (fun j hj => dfS_at N ty hj) hc hs hdg (fun q H1 hP hD hS => kk q H1 ⟨⟨hP, hW.1.2.1, hD⟩, hS, hW.2.2⟩)
theorem kr_putF (hC : Cw own cc nL p s m args c) (hin : meth.name = "<init>") (hW : Wn D cs A ws s H locs) {ci idx w1 b N a : Nat} {nm ds : String} {fs : List Value} {v : Value} {ty : FieldType} (he : ws[0]? = some (a, .inr (ci, fs))) (hq : clT ci b = some (own, nm, ds, true, N)) (hbN : b < N) (h1 : wAt w1 = some (.fieldLink own idx own nm ds)) (hd : parseFieldDescriptor ds = some ty) (hn : narrow ty v = v) (hfit : fits ty v = true) (hl : b < fs.length) (hdg : decode cc pc = .ok (.putfield idx, 3))
    (kk : ∀ (H1 : Heap) (locs1 : List Loc), Wn D cs A (ws.set 0 (a, .inr (ci, fs.set b v))) s H1 locs1 → W p l e R s m args below meth c H1 locs1 cells slots Q (F0 m (pc + 3) ls rest)) : W p l e R s m args below meth c H locs cells slots Q (F0 m pc ls (v :: .ref a :: rest)) := by
  obtain ⟨q, hcl, rf, rfl, rfl, hfin, rfl⟩ := clT_spec hq
  obtain ⟨c1, ⟨ty0, c2⟩, c3⟩ := cls_ok hcl
  exact va_putF hC.1 hC.2.1 hC.2.2.2.2 c1 ty0 c2 c3 hC.2.2.2.1 hW.1.2.1.1 hW.1.1 hW.1.2.2 hW.2.1 0 he hcl b hbN (hts_at hC.2.2.2.2 h1) (fun x h => by rw [rf] at h; exact h) hfin hin rf hd hn hfit hl hdg (fun H1 locs1 hP hD hS => kk H1 locs1 ⟨⟨hP, hW.1.2.1, hD⟩, hS, hW.2.2⟩)
theorem kr_put (hC : Cw own cc nL p s m args c) (hW : Wn D cs A ws s H locs) {ci idx w1 b N a : Nat} {nm ds : String} {fs : List Value} {v : Value} {ty : FieldType} (he : ws[0]? = some (a, .inr (ci, fs))) (hq : clT ci b = some (own, nm, ds, false, N)) (hbN : b < N) (h1 : wAt w1 = some (.fieldLink own idx own nm ds)) (hd : parseFieldDescriptor ds = some ty) (hn : narrow ty v = v) (hfit : fits ty v = true) (hl : b < fs.length) (hdg : decode cc pc = .ok (.putfield idx, 3))
    (kk : ∀ (H1 : Heap) (locs1 : List Loc), Wn D cs A (ws.set 0 (a, .inr (ci, fs.set b v))) s H1 locs1 → W p l e R s m args below meth c H1 locs1 cells slots Q (F0 m (pc + 3) ls rest)) : W p l e R s m args below meth c H locs cells slots Q (F0 m pc ls (v :: .ref a :: rest)) := by
  obtain ⟨q, hcl, rf, rfl, rfl, hfin, rfl⟩ := clT_spec hq
  obtain ⟨c1, ⟨ty0, c2⟩, c3⟩ := cls_ok hcl
  exact va_put hC.1 hC.2.1 hC.2.2.2.2 c1 ty0 c2 c3 hC.2.2.2.1 hW.1.2.1.1 hW.1.1 hW.1.2.2 hW.2.1 0 he hcl b hbN (hts_at hC.2.2.2.2 h1) (fun x h => by rw [rf] at h; exact h) hfin hd hn hfit hl hdg (fun H1 locs1 hP hD hS => kk H1 locs1 ⟨⟨hP, hW.1.2.1, hD⟩, hS, hW.2.2⟩)
theorem mw_obj : wAt 101 = some (.instanceMethod Lib.objectInit) ∧ wAt 102 = some (.code Lib.objectInit ⟨#[0xb1]⟩ 1 none) := ⟨by decide +kernel, by decide +kernel⟩
theorem kr_super (hC : Cw own cc nL p s m args c) {idx w1 a : Nat} (h1 : wAt w1 = some (.methodLink own idx Lib.objectInit)) (hsz : ls.size = nL) (hf : 1 ≤ R.frames) (hl : 12 ≤ R.locals) (hdg : decode cc pc = .ok (.invokespecial idx, 3))
    (kk : W p l e R s m args below meth c H locs cells slots Q (F0 m (pc + 3) ls [])) : W p l e R s m args below meth c H locs cells slots Q (F0 m pc ls [.ref a]) :=
  W.objInit hC.1 hC.2.1 hC.2.2.2.1 (hts_at hC.2.2.2.2 h1) (hts_at hC.2.2.2.2 mw_obj.1) (hts_at hC.2.2.2.2 mw_obj.2) rfl (hsz.trans hC.2.2.1.symm) rfl hdg hf hl kk
/-- what a maker promises: from its own object, as new, to a list of cells -/
def Kt (l : Launch) (y : MethodName) (bb : ByteArray) (mx : Nat) (vs : List Value) (D : va_G) (cs : Cs) (h0 sz : Nat) (f0 : Nat × List Value) (d mc ms : Nat) (post : va_W → Prop) : Prop :=
  Met l y (.code y bb mx none :: lw_g) { frames := d, cells := mc, slots := ms, locals := 38 * d } (va_Pc (.ref h0 :: vs) (fun U => U.heap.size = sz ∧ va_P D classes [(h0, .inr f0)] U.heap ∧ (va_K D classes (tysOf cs) U ∧ Rk cs U) ∧ va_D (fun _ => True) [(h0, .inr f0)]))
    (va_Qv post (fun w1 t => va_P D classes w1 t.heap ∧ va_K D classes (tysOf cs) t ∧ va_D (va_A [(h0, .inr f0)] sz) w1) (va_A [(h0, .inr f0)] sz)) mc ms (va_A [(h0, .inr f0)] sz)
theorem kr_join {x : Nat × va_E} {w1 : va_W} {H1 : Heap} (hW : Wn D cs A (ws ++ [x]) s H locs) (hk : ∀ q : Nat, q < H.size → ¬ va_A [x] H.size q → H1[q]? = H[q]?) (hP1 : va_P D classes w1 H1) (hD1 : va_D (va_A [x] H.size) w1) {locs1 : List Loc} (hS1 : va_S A s.heap H1 locs1) : Wn D cs A (ws ++ w1) s H1 locs1 := by
  have hl : ∀ (k : Nat) (q : Nat × va_E), ws[k]? = some q → (ws ++ [x])[k]? = some q := fun k q h => by
    rw [List.getElem?_append_left (List.getElem?_eq_some_iff.mp h).1]
    exact h
  have hx : (ws ++ [x])[ws.length]? = some x := by simp
  have hap : ∀ (k : Nat) (q : Nat × va_E), ws[k]? = some q → q.1 < H.size ∧ q.1 ≠ x.1 := fun k q h => by
    refine ⟨(hW.1.1 k q (hl k q h)).lt, fun e => ?_⟩
    have := hW.1.2.2.1 k ws.length q x (hl k q h) hx e
    have h2 := (List.getElem?_eq_some_iff.mp h).1
    omega
  have hne : ∀ (k : Nat) (q : Nat × va_E), ws[k]? = some q → ¬ va_A [x] H.size q.1 := fun k q h hA => by
    obtain ⟨h1, h2⟩ := hap k q h
    rcases hA with ⟨j, y, hj⟩ | hA
    · cases j with
      | zero =>
        have e := Option.some.inj hj
        exact h2 (by rw [e])
      | succ j => cases hj
    · omega
  refine ⟨⟨va_P.app (va_P.kept (fun k q h => hW.1.1 k q (hl k q h)) (fun k q h => hk q.1 (hap k q h).1 (hne k q h))) hP1, hW.1.2.1, va_D.app ⟨fun i j a b ha hb e => hW.1.2.2.1 i j a b (hl i a ha) (hl j b hb) e, fun k q h => hW.1.2.2.2 k q (hl k q h)⟩ ⟨hD1.1, fun k q h => ?_⟩ (fun i j a b ha hb e => hne i a ha (by rw [e]; exact hD1.2 j b hb))⟩, hS1, hW.2.2⟩
  rcases hD1.2 k q h with ⟨j, y, hj⟩ | hA
  · cases j with
    | zero =>
      have e := Option.some.inj hj
      have := hW.1.2.2.2 ws.length x hx
      rw [e] at this
      exact this
    | succ j => cases hj
  · exact hW.2.2 _ (Nat.le_trans hW.2.1.1 hA)
theorem kr_free {x : Nat × va_E} (hW : Wn D cs A (ws ++ [x]) s H locs) : ∀ q, va_A [x] H.size q → A q := by
  intro q h
  rcases h with ⟨j, y, hj⟩ | h
  · cases j with
    | zero =>
      have := hW.1.2.2.2 ws.length x (by simp)
      rw [Option.some.inj hj] at this
      exact this
    | succ j => cases hj
  · exact hW.2.2 _ (Nat.le_trans hW.2.1.1 h)
theorem kr_one {x : Nat × va_E} (hW : Wn D cs A (ws ++ [x]) s H locs) : va_P D classes [x] H ∧ va_D (fun _ => True) [x] := by
  refine ⟨fun k q h => ?_, fun i j a b ha hb _ => ?_, fun _ _ _ => trivial⟩
  · cases k with
    | zero => exact hW.1.1 ws.length q (by simpa using h)
    | succ k => cases h
  · have h1 := (List.getElem?_eq_some_iff.mp ha).1
    have h2 := (List.getElem?_eq_some_iff.mp hb).1
    simp at h1 h2
    omega
theorem kr_call (hC : Cw own cc nL p s m args c) {h0 : Nat} {f0 : Nat × List Value} (hW : Wn D cs A (ws ++ [(h0, .inr f0)]) s H locs) {y : MethodName} {bb : ByteArray} {mx n idx wl wi wc wm d mc ms : Nat} {vs : List Value} {post : va_W → Prop}
    (hM : Kt l y bb mx vs D cs h0 H.size f0 d mc ms post) (hwc : wAt wc = some (.code y bb mx none)) (hwi : wAt wi = some (.initialized y.cls)) (hwm : wAt wm = some (.instanceMethod y)) (hwl : wAt wl = some (.methodLink own idx y) ∨ ∃ host, wAt wl = some (.methodLinkNest own idx y host)) (hy : y.name = "<init>")
    (hd : y.cls ≠ "java/lang/invoke/MethodHandle" ∧ y.cls ≠ "java/lang/invoke/VarHandle" ∧ (parseMethodDescriptor y.desc).map (fun d => d.parameters.length) = some n) (hR : d + 1 ≤ R.frames ∧ 8 + (mx + 11) + 38 * d ≤ R.locals) (hn : vs.length = n) (hsz : ls.size = nL) {st : List Value} (hst : st = vs.reverse ++ .ref h0 :: rest) (hcat : (rest.map fun v => v.category).sum ≤ 8) (hdg : decode cc pc = .ok (.invokespecial idx, 3)) (hc : cells + mc ≤ R.cells) (hs : slots + ms ≤ R.slots)
    (kk : ∀ (w1 : va_W) (H1 : Heap) (locs1 : List Loc), post w1 → Wn D cs A (ws ++ w1) s H1 locs1 → W p l e R s m args below meth c H1 locs1 (cells + mc) (slots + ms) Q (F0 m (pc + 3) ls rest)) : W p l e R s m args below meth c H locs cells slots Q (F0 m pc ls st) := by
  have hG : GoodIn lw_g (.code y bb mx none :: lw_g) := by
    intro w hw
    have hm : w ∈ lw_g := by
      rcases List.mem_cons.mp hw with rfl | hw
      · exact List.mem_filter.mpr ⟨List.mem_of_getElem? hwc, rfl⟩
      · exact hw
    exact ⟨hm, good_of_word (List.mem_filter.mp hm).2⟩
  obtain ⟨o1, o2⟩ := kr_one hW
  have hpre : PreS s H (va_Pc (.ref h0 :: vs) (fun U => U.heap.size = H.size ∧ va_P D classes [(h0, .inr f0)] U.heap ∧ (va_K D classes (tysOf cs) U ∧ Rk cs U) ∧ va_D (fun _ => True) [(h0, .inr f0)])) (.ref h0 :: vs) :=
    ⟨fun a U g mk q => by obtain ⟨q0, q1, qP, qK, qD⟩ := q; exact ⟨q0, q1, qP, ⟨va_K.moved (u := U) (U := U.calling g mk a) (Vm.Alike.refl U.vm) qK.1, Rk.same (u := U) (U := U.calling g mk a) rfl qK.2⟩, qD⟩, fun U hU hWm => ⟨rfl, by rw [hU], by rw [hU]; exact o1, ⟨va_K.moved hWm.alike hW.1.2.1.1, hW.1.2.1.2.warm hWm⟩, o2⟩⟩
  have hrun : va_Run p l e R s m args below meth c H locs cells slots mc ms (F0 m pc ls st) rest (va_Qv post (fun w1 t => va_P D classes w1 t.heap ∧ va_K D classes (tysOf cs) t ∧ va_D (va_A [(h0, .inr f0)] H.size) w1) (va_A [(h0, .inr f0)] H.size) (Value.ref h0 :: vs).toArray) (va_A [(h0, .inr f0)] H.size) := by
    rcases hwl with hwl | ⟨host, hwl⟩
    · exact va_runI (As := vs) (n := n) (nL := nL) (Ts := lw_g) hC hM ⟨callB_of n hC.2.2.2.2 hG rfl rfl rfl (hts_at hC.2.2.2.2 hwi) (hts_at hC.2.2.2.2 hwl) hd hR, hy, hts_at hC.2.2.2.2 hwm⟩ hpre rfl hn hsz hst (by show 2 * 0 + _ ≤ 8; omega) hdg ⟨hc, hs⟩
    · refine va_runIN (As := vs) (n := n) (nL := nL) (Ts := lw_g) (host := host) hC hM ⟨⟨⟨rfl, rfl, hR.1, hR.2, pay_in hC.2.2.2.2 hG, List.mem_cons_self⟩, hts_at hC.2.2.2.2 hwc, hts_at hC.2.2.2.2 hwi, ⟨hd.1, hd.2.1⟩, fun sig h => ?_, va_Nw.use rfl (hW.1.2.1.2.2 _ (List.mem_of_getElem? hwl) rfl)⟩, hy, hts_at hC.2.2.2.2 hwm⟩ hpre rfl hn hsz hst (by show 2 * 0 + _ ≤ 8; omega) hdg ⟨hc, hs⟩
      have h2 := hd.2.2
      rw [h] at h2
      exact (Option.some.inj h2).symm
  refine va_callv hrun hW.2.1 (fun q _ h => kr_free hW q h) (fun q h => kr_free hW q h) (fun w1 t H1 locs1 ht hvm hp hB _ hk hS1 => ?_)
  obtain ⟨b1, -, b3⟩ := hB
  rw [ht] at b1
  exact kk w1 H1 locs1 hp (kr_join hW hk b1 b3 hS1)
end MakerRows
