/-! The machine's one step that makes rows of rows: its rule, and what it leaves. -/
section GridRule
variable {E : CtlPost} {e : Env} {d : Bool} {acts : List Action} {s : State}
/-- a row of numbers or of references is made -/
theorem gr_arr {c comp : ClassId} {k : Class} {ty : FieldType} {len : Nat} {v : Value} (hk : s.vm.classes[c]? = some k) (hkind : k.kind = .array comp ty)
    (h1 : ¬ len > e.platform.arrayLengthLimit) (h2 : ¬ len * componentBytes ty > e.platform.maxHeapBytes) (hv : fits ty v = true) (hd : v.isDefault = true) {Q : Addr → Pre}
    (h3 : s.heap.size < e.platform.maxCells) (h4 : s.slotsUsed + len ≤ e.platform.maxSlots) (hq : Q s.heap.size d acts (s.pushCell (arrV c len (fun _ => v)))) :
    Sem.wp (Jvm.newArray c len v) Q E e d acts s := by
  rw [← arrV_new] at hq
  have hfit : ∀ i w, (Array.replicate len v)[i]? = some w → s.fitsSlot c .none i w = true := by
    intro i w h
    have h' := h
    simp only [Array.getElem?_replicate] at h'
    split at h'
    · cases h'
      simp [State.fitsSlot, State.slotType?, hk, hkind, hv]
    · cases h'
  have hact : allocActs (Array.replicate len v) s.heap.size acts = acts := by
    have hall : ((Array.replicate len v).all (·.isDefault)) = true := by
      rw [Array.all_replicate]
      split <;> simp [hd]
    unfold allocActs
    rw [if_pos hall]
  simp only [Jvm.newArray, Jvm.arrayFits, Sem.wp_bind', Jvm.W.ask, Jvm.W.ite, h1, if_false, Sem.wp_pure', Jvm.W.theClass, hk, hkind, h2, Jvm.W.alloc, Jvm.W.stop, Option.some.injEq, exists_eq_left', Array.size_replicate, hact]
  rw [if_neg (by omega)]
  exact ⟨h3, h4, hfit, hq⟩
/-- a row of numbers inside -/
theorem gr_in {kI ck : ClassId} {K : Class} {k : Int32} (hK : s.vm.classes[kI]? = some K) (hkind : K.kind = .array ck .int) (hk : ¬ k < 0)
    (h1 : ¬ k.toNatClampNeg > e.platform.arrayLengthLimit) (h2 : ¬ k.toNatClampNeg * componentBytes .int > e.platform.maxHeapBytes)
    (h3 : s.heap.size < e.platform.maxCells) (h4 : s.slotsUsed + k.toNatClampNeg ≤ e.platform.maxSlots) {Q : Addr → Pre} (hq : Q s.heap.size d acts (s.pushCell (gdI kI k.toNatClampNeg))) :
    Sem.wp (Jvm.Op.multianewarray.make kI [k]) Q E e d acts s := by
  rw [Jvm.Op.multianewarray.make]
  simp only [Sem.wp_bind', Jvm.W.ite, hk, if_false, Sem.wp_pure', Jvm.W.theClass, hK, hkind, Option.some.injEq, exists_eq_left']
  exact gr_arr hK hkind h1 h2 rfl rfl h3 h4 hq
theorem gr_ge {n : Nat} {x i : Nat} {rest : List Nat} (h : x :: rest = List.range' i (n - i)) : x = i ∧ i < n ∧ rest = List.range' (i + 1) (n - (i + 1)) := by
  have hlt : i < n := by
    rcases Nat.lt_or_ge i n with q | q
    · exact q
    · rw [show n - i = 0 by omega] at h
      cases h
  rw [show n - i = (n - (i + 1)) + 1 by omega, List.range'_succ] at h
  exact ⟨(List.cons.inj h).1, hlt, (List.cons.inj h).2⟩
theorem gr_two {kO kI ck : ClassId} {KO K : Class} {n k : Int32} (hO : s.vm.classes[kO]? = some KO) (hko : KO.kind = .array kI (.array .int)) (hK : s.vm.classes[kI]? = some K) (hki : K.kind = .array ck .int)
    (hn : ¬ n < 0) (hk : ¬ k < 0) (a1 : ¬ n.toNatClampNeg > e.platform.arrayLengthLimit) (a2 : ¬ n.toNatClampNeg * componentBytes (.array .int) > e.platform.maxHeapBytes)
    (b1 : ¬ k.toNatClampNeg > e.platform.arrayLengthLimit) (b2 : ¬ k.toNatClampNeg * componentBytes .int > e.platform.maxHeapBytes)
    (hc : s.heap.size + (1 + n.toNatClampNeg) ≤ e.platform.maxCells) (hs : s.slotsUsed + (n.toNatClampNeg + n.toNatClampNeg * k.toNatClampNeg) ≤ e.platform.maxSlots)
    {Q : Addr → Pre} (hq : ∀ d' acts', Q s.heap.size d' acts' (gdS s kO kI n.toNatClampNeg k.toNatClampNeg n.toNatClampNeg)) :
    Sem.wp (Jvm.Op.multianewarray.make kO [n, k]) Q E e d acts s := by
  have hfind : ([k].find? (· < 0)) = none := by simp [hk]
  rw [Jvm.Op.multianewarray.make]
  simp only [Sem.wp_bind', Jvm.W.ite, hn, if_false, Sem.wp_pure', Jvm.W.theClass, hO, hko, Option.some.injEq, exists_eq_left']
  refine gr_arr hO hko a1 a2 rfl rfl (by omega) (by omega) ?_
  simp only [hfind]
  rw [ite_self, Sem.wp_bind', Std.Legacy.Range.forIn_eq_forIn_range']
  rw [show ([:n.toNatClampNeg] : Std.Legacy.Range).size = n.toNatClampNeg by simp [Std.Legacy.Range.size]]
  show Sem.wp (forIn (List.range' 0 n.toNatClampNeg 1) PUnit.unit _) _ E e d acts _
  refine Jvm.wp_forIn_inv (fun rest T => ∃ i, i ≤ n.toNatClampNeg ∧ rest = List.range' i (n.toNatClampNeg - i) ∧ T = gdS s kO kI n.toNatClampNeg k.toNatClampNeg i) _ _ ⟨0, Nat.zero_le _, rfl, rfl⟩ ?_ ?_
  · rintro x rest T d' acts' Q' ⟨i, hi, hl, rfl⟩ hnext
    obtain ⟨rfl, hlt, hrest⟩ := gr_ge hl
    have f1 := gd_size s kO kI n.toNatClampNeg k.toNatClampNeg x
    have f2 := gd_head s kO kI n.toNatClampNeg k.toNatClampNeg x
    have f3 := gd_vm s kO kI n.toNatClampNeg k.toNatClampNeg x
    have f4 := gd_used s kO kI n.toNatClampNeg k.toNatClampNeg x
    have hmul : x * k.toNatClampNeg + k.toNatClampNeg ≤ n.toNatClampNeg * k.toNatClampNeg := by
      have h := Nat.mul_le_mul_right k.toNatClampNeg (show x + 1 ≤ n.toNatClampNeg from hlt)
      rw [Nat.succ_mul] at h
      exact h
    simp only [Sem.wp_bind']
    refine gr_in (by rw [f3]; exact hK) hki hk b1 b2 (by rw [f1]; omega) (by rw [f4]; omega) ?_
    simp only [Sem.wp_bind', Jvm.W.writeLoc, Sem.wp_pure']
    refine ⟨gdO kO n.toNatClampNeg s.heap.size x, (State.heap_pushCell_of_lt (a := s.heap.size) _ _ (show s.heap.size < (gdS s kO kI n.toNatClampNeg k.toNatClampNeg x).heap.size by omega)).trans f2, by simp [gdO, arrV], by rw [gdO, arrV_size]; exact hlt, ?_, hnext _ _ _ ⟨x + 1, hlt, hrest, ?_⟩⟩
    · show State.fitsSlot _ kO .none _ _ = true
      simp [State.fitsSlot, State.slotType?, f3, hO, hko]
      rfl
    · rw [f1, gdO_set]
      rfl
  · rintro T d' acts' ⟨i, hi, hl, rfl⟩
    have hin : i = n.toNatClampNeg := by
      rcases Nat.lt_or_ge i n.toNatClampNeg with q | q
      · rw [show n.toNatClampNeg - i = (n.toNatClampNeg - (i + 1)) + 1 by omega, List.range'_succ] at hl
        cases hl
      · omega
    subst hin
    simp only [Sem.wp_pure']
    exact hq _ _
end GridRule
section GridStep
variable {p : Program} {l : Launch} {e : Env} {R : Room} {s : State} {m : MethodId} {args : Array Value} {below : List Frame} {meth : Method} {c : Code} {T : State} {H : Heap} {locs : List Loc} {cells slots : Nat} {Q : State → Prop}
/-- the machine stands as it stood, with i rows more -/
theorem gr_stand (X : Stand p l e R s m args below meth c T locs cells slots) (kO kI : ClassId) (n k : Nat) :
    ∀ i, Stand p l e R s m args below meth c (gdS T kO kI n k i) (locs ++ (List.range i).map fun j => (⟨T.heap.size, j⟩ : Loc)) (cells + 1 + i) (slots + n + i * k)
  | 0 => by
    have h := X.pushed (gdO kO n T.heap.size 0)
    rw [gdO, arrV_size] at h
    simpa [gdS, gdO] using h
  | i + 1 => by
    have Y := gr_stand X kO kI n k i
    have hs := gd_size T kO kI n k i
    have hcell : ((gdS T kO kI n k i).pushCell (gdI kI k)).heap[T.heap.size]? = some (gdO kO n T.heap.size i) := (State.heap_pushCell_of_lt (a := T.heap.size) _ _ (show T.heap.size < (gdS T kO kI n k i).heap.size by omega)).trans (gd_head T kO kI n k i)
    have h := (Y.pushed (gdI kI k)).stored hcell i (.ref (T.heap.size + 1 + i))
    rw [gdI, arrV_size, gdO_set] at h
    rw [List.range_succ, List.map_append, ← List.append_assoc, show slots + n + (i + 1) * k = slots + n + i * k + k by rw [Nat.succ_mul]; omega]
    exact h
theorem W.gridN {cc : ByteArray} (hexec : p.tables.exec = Jvm.exec) (hb : c.code = cc) {own : String} {index : Nat} (hown : s.vm.findClass own = some m.cls) (hlink : (Cond.classLink own index "[[I").before args s = true)
    {kO kI ck : ClassId} {KO K : Class} (hnO : s.vm.findClass "[[I" = some kO) (hKO : s.vm.classes[kO]? = some KO) (hko : KO.kind = .array kI (.array .int)) (hK : s.vm.classes[kI]? = some K) (hki : K.kind = .array ck .int)
    {g : JFrame} (hg : g.method = m) (hdg : decode cc g.pc = .ok (.multianewarray index 2, 4)) {n k : Int32} {rest : List Value} (hstack : g.stack = .int k :: .int n :: rest) (hn : ¬ n < 0) (hk : ¬ k < 0)
    (hb1 : n.toNatClampNeg * 4 ≤ 536870912) (hb2 : k.toNatClampNeg * 4 ≤ 536870912) (hcells : cells + (1 + n.toNatClampNeg) ≤ R.cells) (hslots : slots + (n.toNatClampNeg + n.toNatClampNeg * k.toNatClampNeg) ≤ R.slots) (hnew : s.heap.size ≤ H.size)
    (kk : ∀ (H1 : Heap), H1.size = H.size + 1 + n.toNatClampNeg → (∀ a, a < H.size → H1[a]? = H[a]?) →
      H1[H.size]? = some (gdO kO n.toNatClampNeg H.size n.toNatClampNeg) → (∀ j, j < n.toNatClampNeg → H1[H.size + 1 + j]? = some (gdI kI k.toNatClampNeg)) →
      W p l e R s m args below meth c H1 locs (cells + (1 + n.toNatClampNeg)) (slots + (n.toNatClampNeg + n.toNatClampNeg * k.toNatClampNeg)) Q { g with pc := g.pc + 4, stack := .ref H.size :: rest }) : W p l e R s m args below meth c H locs cells slots Q g := by
  intro T hT X
  subst hT; subst hb; subst hg
  have hpl : e.platform.magicAccessors = ({} : Platform).magicAccessors := by rw [X.admits.platform]
  obtain ⟨c0, hc0, hcl⟩ := Cond.classLink_spec hown hlink e.platform hpl
  cases hnO.symm.trans hc0
  obtain ⟨hg₁, hwarm₁, hready₁⟩ := State.classEntry (e := e) X.warmed hcl
  generalize T.vm.noted g.method.cls index (.cls kO) = vm₁ at hg₁ hwarm₁ hready₁
  have hal : s.vm.Alike vm₁ := hwarm₁.alike
  obtain ⟨KO₁, hKO₁, heO⟩ := hal.2.2 _ _ hKO
  obtain ⟨K₁, hK₁, heI⟩ := hal.2.2 _ _ hK
  have hko₁ : KO₁.kind = .array kI (.array .int) := by rw [heO]; exact hko
  have hki₁ : K₁.kind = .array ck .int := by rw [heI]; exact hki
  have Y := gr_stand (X.noted hwarm₁) kO kI n.toNatClampNeg k.toNatClampNeg n.toNatClampNeg
  obtain ⟨hr1, hr2⟩ := X.roomAbove hcells hslots
  have Y' : Stand p l e R s g.method args below meth c (gdS (T.setVm vm₁) kO kI n.toNatClampNeg k.toNatClampNeg n.toNatClampNeg) locs (cells + (1 + n.toNatClampNeg)) (slots + (n.toNatClampNeg + n.toNatClampNeg * k.toNatClampNeg)) := by
    have h := Y.forget (by
      intro y hy
      obtain ⟨j, -, rfl⟩ := List.mem_map.mp hy
      exact hnew)
    rw [← Nat.add_assoc, ← Nat.add_assoc]
    exact h
  obtain ⟨t, a1, b1⟩ := kk (gdS (T.setVm vm₁) kO kI n.toNatClampNeg k.toNatClampNeg n.toNatClampNeg).heap
    (gd_size _ _ _ _ _ _) (fun a ha => gd_old (T.setVm vm₁) kO kI n.toNatClampNeg k.toNatClampNeg ha _) (gd_head _ _ _ _ _ _) (fun j hj => gd_row _ _ _ _ _ _ j hj) _ rfl Y'
  refine ⟨t, ?_, b1⟩
  have l1 : ¬ n.toNatClampNeg > e.platform.arrayLengthLimit := by rw [Launch.admits_arrayLengthLimit X.admits]; omega
  have l2 : ¬ n.toNatClampNeg * componentBytes (.array .int) > e.platform.maxHeapBytes := by
    rw [Launch.admits_maxHeapBytes X.admits]; show ¬ n.toNatClampNeg * 4 > 536870912; omega
  have l3 : ¬ k.toNatClampNeg > e.platform.arrayLengthLimit := by rw [Launch.admits_arrayLengthLimit X.admits]; omega
  have l4 : ¬ k.toNatClampNeg * componentBytes .int > e.platform.maxHeapBytes := by
    rw [Launch.admits_maxHeapBytes X.admits]; show ¬ k.toNatClampNeg * 4 > 536870912; omega
  jvm_step X.here [hexec, hdg]
  simp only [Jvm.Op.multianewarray.sem, Sem.wp_bind', Jvm.W.resolveClassAt_links (State.method?_setTop g X.here.top) hg₁]
  rw [Jvm.W.popN, if_neg (by decide)]
  refine ⟨g, State.topJava?_setTop' (s := T.setVm vm₁) g X.here.top, [.int n, .int k], rest, rfl, hstack, ?_⟩
  simp only [List.mapM_cons, List.mapM_nil, Sem.wp_bind', Sem.wp_pure']
  refine gr_two (KO := KO₁) (K := K₁) (ck := ck) hKO₁ hko₁ hK₁ hki₁ hn hk l1 l2 l3 l4 (by show T.heap.size + _ ≤ _; omega) (by show T.slotsUsed + _ ≤ _; omega) (fun d' acts' => ?_)
  have eS : ((T.setTop g).setVm vm₁).setTop { g with stack := rest } = (T.setVm vm₁).setTop { g with stack := rest } := by
    show ((T.setVm vm₁).setTop g).setTop _ = _
    rw [State.setTop_setTop]
  rw [eS, gd_top]
  simp only [Sem.wp_bind', Jvm.W.mark, Jvm.W.pushRef, State.topJava?_setTop' _ Y.here.top, Option.some.injEq, exists_eq_left', State.setTop_setTop, State.heap_setTop]
  intro acts
  simp [jvm, Y.here.top]
  exact a1
/-- the rule, on the world: the row of rows and its rows, as cells at addresses one after the other -/
theorem va_grid {cc : ByteArray} {D : va_G} {cl : List vw_C} {A : Nat → Prop} {ws : va_W} {H0 : Heap} (hexec : p.tables.exec = Jvm.exec) (hb : c.code = cc) {own : String} {index : Nat} (hown : s.vm.findClass own = some m.cls) (hlink : (Cond.classLink own index "[[I").before args s = true)
    {kO kI ck : ClassId} {KO K : Class} (hnO : s.vm.findClass "[[I" = some kO) (hKO : s.vm.classes[kO]? = some KO) (hko : KO.kind = .array kI (.array .int)) (hK : s.vm.classes[kI]? = some K) (hki : K.kind = .array ck .int) (hP : va_P D cl ws H) (hD : va_D A ws) (hS : va_S A H0 H locs) (hA : ∀ q, H0.size ≤ q → A q) (hH0 : s.heap.size ≤ H0.size)
    {pc : Nat} {ls : Array Slot} {rest : List Value} (hdg : decode cc pc = .ok (.multianewarray index 2, 4)) {n k : Int32} {n' k' : Nat} (hn : n.toNatClampNeg = n') (hk : k.toNatClampNeg = k') (hn0 : ¬ n < 0) (hk0 : ¬ k < 0)
    (hb1 : n' * 4 ≤ 536870912) (hb2 : k' * 4 ≤ 536870912) (hcells : cells + (1 + n') ≤ R.cells) (hslots : slots + (n' + n' * k') ≤ R.slots)
    (kk : ∀ (q : Nat) (H1 : Heap),
      va_P D cl (ws ++ (q, .inl (kO, n', .inr (.inr (.inr (.inr fun j => if j < n' then some (q + 1 + j) else none))))) :: (List.range n').map fun j => (q + 1 + j, .inl (kI, k', .inl fun _ => 0))) H1 →
      va_D A (ws ++ (q, .inl (kO, n', .inr (.inr (.inr (.inr fun j => if j < n' then some (q + 1 + j) else none))))) :: (List.range n').map fun j => (q + 1 + j, .inl (kI, k', .inl fun _ => 0))) → va_S A H0 H1 locs →
      W p l e R s m args below meth c H1 locs (cells + (1 + n')) (slots + (n' + n' * k')) Q (F0 m (pc + 4) ls (.ref q :: rest))) : W p l e R s m args below meth c H locs cells slots Q (F0 m pc ls (.int k :: .int n :: rest)) := by
  subst hn
  subst hk
  refine W.gridN hexec hb hown hlink hnO hKO hko hK hki rfl hdg rfl hn0 hk0 hb1 hb2 hcells hslots (Nat.le_trans hH0 hS.1) fun H1 z old hd row => ?_
  have hat : ∀ (j : Nat) (x : Nat × va_E), ((H.size, Sum.inl (kO, n.toNatClampNeg, .inr (.inr (.inr (.inr fun j => if j < n.toNatClampNeg then some (H.size + 1 + j) else none))))) :: (List.range n.toNatClampNeg).map fun j => (H.size + 1 + j, (Sum.inl (kI, k.toNatClampNeg, .inl fun _ => 0) : va_E)))[j]? = some x → x.1 = H.size + j ∧ va_at D cl x H1 := by
    intro j x hx
    cases j with
    | zero =>
      cases hx
      refine ⟨rfl, ?_⟩
      show H1[H.size]? = some (vp_cell kO _)
      rw [hd]
      refine congrArg some ?_
      refine Eq.trans ?_ (vp_cell_q _ _ _).symm
      unfold gdO
      congr 1
      funext j
      by_cases q : j < n.toNatClampNeg
      · simp [q, va_rf]
      · simp [q, va_rf]
    | succ j =>
      rw [List.getElem?_cons_succ, List.getElem?_map] at hx
      have hj : j < n.toNatClampNeg := by
        rcases Nat.lt_or_ge j n.toNatClampNeg with q | q
        · exact q
        · rw [List.getElem?_eq_none (by rw [List.length_range]; exact q)] at hx
          cases hx
      rw [List.getElem?_range hj] at hx
      cases hx
      exact ⟨by show H.size + 1 + j = H.size + (j + 1); omega, row j hj⟩
  refine kk H.size H1 ((hP.kept (fun k x hx => old x.1 ((hP k x hx).lt))).app (fun k x hx => (hat k x hx).2)) (hD.app ⟨fun i j x y hx hy e => ?_, fun k x hx => hA _ ?_⟩ fun i j x y hx hy => ?_) ⟨by have h := hS.1; omega, fun x h1 h2 => (old x (Nat.lt_of_lt_of_le h1 hS.1)).trans (hS.2.1 x h1 h2), hS.2.2⟩
  · have h1 := (hat i x hx).1
    have h2 := (hat j y hy).1
    omega
  · have h1 := (hat k x hx).1
    have h2 := hS.1
    omega
  · have h1 := (hP i x hx).lt
    have h2 := (hat j y hy).1
    omega
end GridStep
