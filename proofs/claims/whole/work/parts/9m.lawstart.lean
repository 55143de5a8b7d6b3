/-! The law's start: what the tables know, and the first worlds beside each other. -/
theorem lw_hts {args : Array Value} {s : State} (hts : ∀ w ∈ lw_tbl, w.before args s = true) : ∀ w ∈ lw_g, w.before args s = true := fun w hw => hts w (List.mem_filter.mp hw).1
/-- the class of rows of rows: its number, its kind, its name -/
theorem lw_over {args : Array Value} {s : State} {t : FieldType} (h : (Jvm.Cond.arrayOver (.array t)).before args s = true) : ∃ comp cA k, s.vm.findClass (FieldType.array t).toString = some comp ∧ s.vm.classes[cA]? = some k ∧ k.kind = .array comp (.array t) ∧ s.vm.findClass ("[" ++ (FieldType.array t).toString) = some cA := by
  simp only [Jvm.Cond.before, Jvm.Cond.holds, Jvm.Cond.value, beq_iff_eq] at h
  cases hc : s.vm.findClass (FieldType.array t).toString with
  | none => simp [hc] at h
  | some comp =>
    simp only [hc, Option.bind_some, Option.bind_eq_some_iff, Option.map_eq_some_iff] at h
    obtain ⟨cA, hi, k, hk, hb⟩ := h
    obtain ⟨hlt, hp, -⟩ := Array.findIdx?_eq_some_iff_getElem.mp hi
    have hkk : s.vm.classes[cA] = k := (Array.getElem?_eq_some_iff.mp hk).2
    rw [hkk] at hp
    cases hkind : k.kind with
    | array component ty =>
      rw [hkind] at hb hp
      simp at hb hp
      exact ⟨comp, cA, k, rfl, hk, by rw [hkind, hp, hb.1], hb.2⟩
    | _ => rw [hkind] at hb; simp at hb
theorem lw_inst {args : Array Value} {s : State} (hts : ∀ w ∈ lw_tbl, w.before args s = true) : ∀ (k : Nat) (q : vw_C), classes[k]? = some q → ∃ n, (Jvm.Cond.instantiable q.1 n).before args s = true := by
  intro k q hq
  match k, hq with
  | 0, hq => cases hq; exact ⟨16, hts _ (List.mem_of_getElem? (show lw_tbl[260]? = some (.instantiable RX0 16) from by decide +kernel))⟩
  | 1, hq => cases hq; exact ⟨3, hts _ (List.mem_of_getElem? (show lw_tbl[412]? = some (.instantiable RX1 3) from by decide +kernel))⟩
  | 2, hq => cases hq; exact ⟨9, hts _ (List.mem_of_getElem? (show lw_tbl[307]? = some (.instantiable RX2 9) from by decide +kernel))⟩
  | 3, hq => cases hq; exact ⟨5, hts _ (List.mem_of_getElem? (show lw_tbl[232]? = some (.instantiable RX3 5) from by decide +kernel))⟩
  | 4, hq => cases hq; exact ⟨2, hts _ (List.mem_of_getElem? (show lw_tbl[453]? = some (.instantiable RX4 2) from by decide +kernel))⟩
  | 5, hq => cases hq; exact ⟨5, hts _ (List.mem_of_getElem? (show lw_tbl[430]? = some (.instantiable RX5 5) from by decide +kernel))⟩
  | 6, hq => cases hq; exact ⟨11, hts _ (List.mem_of_getElem? (show lw_tbl[183]? = some (.instantiable RX6 11) from by decide +kernel))⟩
  | 7, hq => cases hq; exact ⟨8, hts _ (List.mem_of_getElem? (show lw_tbl[468]? = some (.instantiable RX7 8) from by decide +kernel))⟩
  | 8, hq => cases hq; exact ⟨15, hts _ (List.mem_of_getElem? (show lw_tbl[104]? = some (.instantiable RX8 15) from by decide +kernel))⟩
  | 9, hq => cases hq; exact ⟨3, hts _ (List.mem_of_getElem? (show lw_tbl[501]? = some (.instantiable RX9 3) from by decide +kernel))⟩
  | 10, hq => cases hq; exact ⟨7, hts _ (List.mem_of_getElem? (show lw_tbl[266]? = some (.instantiable RX10 7) from by decide +kernel))⟩
  | 11, hq => cases hq; exact ⟨10, hts _ (List.mem_of_getElem? (show lw_tbl[96]? = some (.instantiable RX11 10) from by decide +kernel))⟩
  | 12, hq => cases hq; exact ⟨50, hts _ (List.mem_of_getElem? (show lw_tbl[1167]? = some (.instantiable RX12 50) from by decide +kernel))⟩
  | k + 13, hq => simp [classes] at hq
/-- the classes' numbers, and the rows' -/
theorem lw_known {args : Array Value} {s : State} (hts : ∀ w ∈ lw_tbl, w.before args s = true) : ∃ (D : va_G) (cs : Cs), va_K D classes (tysOf cs) s ∧ Rk cs s := by
  have hg := lw_hts hts
  have hK : ∀ k : Nat, ∃ (cC : Nat) (iS : Nat → Nat), ∀ q, classes[k]? = some q → u_Kn s q.1 q.2.1 q.2.2 cC iS := by
    intro k
    cases hq : classes[k]? with
    | none => exact ⟨0, fun _ => 0, fun q h => by cases h⟩
    | some q0 =>
      obtain ⟨n, hn⟩ := lw_inst hts k q0 hq
      obtain ⟨cC, iS, h⟩ := u_known hg (cls_ok hq).1 hn
      exact ⟨cC, iS, fun q e => by cases e; exact h⟩
  obtain ⟨cI, kI, pI, i1, i2, i3⟩ := Jvm.Cond.arrayClass_spec (hts _ (List.mem_of_getElem? (show lw_tbl[181]? = some (.arrayClass .int) from by decide +kernel)))
  obtain ⟨cB, kB, pB, b1, b2, b3⟩ := Jvm.Cond.arrayClass_spec (hts _ (List.mem_of_getElem? (show lw_tbl[230]? = some (.arrayClass .boolean) from by decide +kernel)))
  obtain ⟨cp, cA, kA, a1, a2, a3, a4⟩ := lw_over (hts _ (List.mem_of_getElem? (show lw_tbl[189]? = some (.arrayOver (.array .int)) from by decide +kernel)))
  have e1 : (FieldType.array FieldType.int).toString = "[" ++ FieldType.int.toString := by decide +kernel
  have e2 : "[" ++ (FieldType.array FieldType.int).toString = "[[I" := by decide +kernel
  have hcp : cp = cI := by
    rw [e1] at a1
    exact Option.some.inj (a1.symm.trans i1)
  subst hcp
  refine ⟨(fun k => Classical.choose (hK k), fun k => Classical.choose (Classical.choose_spec (hK k))), (cp, cB, cA), ⟨fun k q hq => Classical.choose_spec (Classical.choose_spec (hK k)) q hq, fun k q hq => ?_⟩, ⟨kA, kI, pI, by rw [← e2]; exact a4, a2, a3, i2, i3⟩, fun w hw hn => ?_⟩
  · match k, hq with
    | 0, hq => cases hq; exact ⟨fun n z => ⟨fun k h => (by cases h), kI, i2, pI, i3⟩, i1⟩
    | 1, hq => cases hq; exact ⟨fun n z => ⟨fun k h => (by cases h), kB, b2, pB, b3⟩, b1⟩
    | 2, hq => cases hq; exact ⟨fun n z => ⟨fun k h => (by cases h), kA, a2, cp, a3⟩, a4⟩
    | k + 3, hq => simp [tysOf] at hq
  · unfold isNest at hn
    split at hn
    · exact va_Nw.of rfl (hts _ hw)
    · cases hn
theorem lk_all : ∀ c ∈ lbs false, c ∈ Lk_BikeTown := by decide +kernel
theorem Lw_of {D : va_G} {cs : Cs} {aC aM : Ad} {τ : Sg} {s : State} {H : Heap} {locs : List Loc} (h : Wn D cs (fun q => s.heap.size ≤ q) (cnL Lk_BikeTown cs aC sC ++ conc true cs aM τ) s H locs) : Lw D cs aC aM sC τ s H locs := by
  obtain ⟨⟨hP, ⟨hK, -⟩, hD⟩, hS, -⟩ := h
  have hLk : ∀ c ∈ lbs false, ∃ k : Nat, Lk_BikeTown[k]? = some c ∧ (cnL Lk_BikeTown cs aC sC ++ conc true cs aM τ)[k]? = some (aC c.1 c.2.1 c.2.2, cel cs aC sC c.1 c.2.1 c.2.2) ∧ k < (cnL Lk_BikeTown cs aC sC).length := by
    intro c hc
    obtain ⟨k, hk⟩ := List.getElem?_of_mem (lk_all c hc)
    have h1 : (cnL Lk_BikeTown cs aC sC)[k]? = some (aC c.1 c.2.1 c.2.2, cel cs aC sC c.1 c.2.1 c.2.2) := by
      unfold cnL
      rw [List.getElem?_map, hk]
      rfl
    have hlt := (List.getElem?_eq_some_iff.mp h1).1
    exact ⟨k, hk, by rw [List.getElem?_append_left hlt]; exact h1, hlt⟩
  have hM : ∀ (j : Nat) (q : Nat × va_E), (conc true cs aM τ)[j]? = some q → (cnL Lk_BikeTown cs aC sC ++ conc true cs aM τ)[(cnL Lk_BikeTown cs aC sC).length + j]? = some q := by
    intro j q hq
    rw [List.getElem?_append_right (Nat.le_add_right _ _), Nat.add_sub_cancel_left]
    exact hq
  have hC : ∀ (k : Nat) (q : Nat × va_E), (conc false cs aC sC)[k]? = some q → ∃ c, (lbs false)[k]? = some c ∧ q = (aC c.1 c.2.1 c.2.2, cel cs aC sC c.1 c.2.1 c.2.2) := by
    intro k q hq
    unfold conc at hq
    rw [List.getElem?_map] at hq
    obtain ⟨c, h1, h2⟩ := Option.map_eq_some_iff.mp hq
    exact ⟨c, h1, h2.symm⟩
  refine ⟨⟨fun k q hq => ?_, fun i j p q hp hq e => ?_, fun k q hq => ?_⟩, ⟨fun k q hq => hP _ q (hM k q hq), fun i j p q hp hq e => ?_, fun k q hq => hD.2 _ q (hM k q hq)⟩, hK, hS, fun c hc c' hc' e => ?_⟩
  · obtain ⟨c, h1, rfl⟩ := hC k q hq
    obtain ⟨k', -, h2, -⟩ := hLk c (List.mem_of_getElem? h1)
    exact hP k' _ h2
  · obtain ⟨c, h1, rfl⟩ := hC i p hp
    obtain ⟨c', h1', rfl⟩ := hC j q hq
    obtain ⟨k, g, h2, -⟩ := hLk c (List.mem_of_getElem? h1)
    obtain ⟨k', g', h2', -⟩ := hLk c' (List.mem_of_getElem? h1')
    have ek := hD.1 k k' _ _ h2 h2' e
    subst ek
    have ec : c = c' := Option.some.inj (g.symm.trans g')
    subst ec
    have hl := (List.getElem?_eq_some_iff.mp h1).1
    exact (List.getElem?_inj hl (lbs_nd false)).mp (h1.trans h1'.symm)
  · obtain ⟨c, h1, rfl⟩ := hC k q hq
    obtain ⟨k', -, h2, -⟩ := hLk c (List.mem_of_getElem? h1)
    exact hD.2 k' _ h2
  · have := hD.1 _ _ p q (hM i p hp) (hM j q hq) e
    omega
  · obtain ⟨k, -, h2, hlt⟩ := hLk c hc
    obtain ⟨j, -, hj⟩ := conc_get (cs := cs) (as := aM) (σ := τ) hc'
    have := hD.1 _ _ _ _ h2 (hM j _ hj) e
    omega
