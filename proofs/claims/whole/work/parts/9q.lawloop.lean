/-! THE CLAIM OUT OF ONE WALK OF THE LAW'S BODY. Your part is whole_start (and what it stands on); all else here is the same for every law, but numbers. -/
def R_law : String := "BikeTownLaw"
def lw_P (b : Addr) (xs : List Int32) (args : Array Value) (s : State) : Prop := args = #[.ref b] ∧ s.IntsAt b xs ∧ xs.length ≤ 2560 ∧ (Jvm.Cond.and given_1 narrow_1).before args s = true
def lw_Q (_ : Array Value) (s : State) (o : Outcome) (t : State) : Prop := o = .returned (some (.int 1)) ∧ Framed s o t [] 600000 7302250
def lw_Z (below : List Frame) (a : Array Value) (s : State) : State → Prop := fun t => ∃ o, t.status = .running ∧ Ended t below o ∧ lw_Q a s o t
/-- the law's own end, with 1 on the stack, nothing written that was there before, its room as the claim has it -/
theorem lw_ret {p : Program} {l : Launch} {e : Env} {s : State} {m : MethodId} {below : List Frame} {meth : Method} {c : Code} {b : Nat} (hx : p.tables.exec = Jvm.exec) (hb : c.code = code) (hr : meth.sig.returnType = ret) (hlocks : meth.locks = false) {pc : Nat} {H : Heap} {ls : Array Slot} (hdg : decode code pc = .ok (.ireturn, 1)) : W p l e room_1 s m #[Value.ref b] below meth c H [] 600000 7302250 (lw_Z below #[Value.ref b] s) (F0 m pc ls [.int 1]) := by
  intro T hT X
  obtain ⟨fs, hret, hrun, hended, hW, hframe⟩ := X.leave (v := some (.int 1)) (hlocks := hlocks) (fun h => by rw [hr] at h; cases h)
  have hmeth' : T.vm.method? m = some meth := X.method'
  refine ⟨T.setFrames fs, ?_, .returned (some (.int 1)), hrun, hended, rfl, ⟨_, rfl⟩, hW, hframe⟩
  jvm_step X.here [X.here.top, hx, hb, hdg, hmeth', hr, ret, narrow_b1]
  (try refine ⟨rfl, ?_⟩); (try refine ⟨rfl, ?_⟩)
  first | (intro acts; rw [hret _ acts rfl rfl rfl]) | rw [hret _ _ rfl rfl rfl]
  exact Steps.refl _
/-- what holds at the law's entry: the machine, the code, the tables' words (any of lw_tbl by 'hts w (by decide +kernel)'), the script of L ints xs at the cell b, what the Statement gives of the start (any of its parts by flat_of_before) -/
def lw_At (p : Program) (s : State) (m : MethodId) (meth : Method) (c : Code) (b L : Nat) (xs : Nat → Int32) : Prop :=
  p.tables.exec = Jvm.exec ∧ c.code = code ∧ meth.sig.returnType = ret ∧ c.maxLocals = 4 ∧ s.vm.findClass R_law = some m.cls ∧ (∀ w ∈ lw_tbl, w.before #[Value.ref b] s = true) ∧ va_X b L xs s s.heap ∧ b < s.heap.size ∧ meth.locks = false ∧ (Jvm.Cond.and given_1 narrow_1).before #[Value.ref b] s = true
/-! The law's loop, and the law from its entry. -/
def lwO : Array Int := #[184, 227, 250, 293, 346, 379, 412, 461, 484, 507, 540, 573, 596, 609, 622, 635, 684, 707, 730, 763, 796, 829, 852, 885, 918, 951, 994, 1047, 1080, 1113, 1126, 1149, 1202, 1215, 1238, 1271, 1304, 1347, 1380, 1429, 1462, 1485]
def lwP : List Nat := [216, 259, 282, 325, 378, 411, 444, 493, 516, 539, 572, 605, 628, 641, 654, 667, 716, 739, 762, 795, 828, 861, 884, 917, 950, 983, 1026, 1079, 1112, 1145, 1158, 1181, 1234, 1247, 1270, 1303, 1336, 1379, 1412, 1461, 1494, 1517]
theorem lw_tab : ∀ k, k < 42 → lwO[((nI k).toInt - 0).toNat]? = some (lwO.getD k 0) ∧ ¬ (nI k).toInt < 0 ∧ ¬ 41 < (nI k).toInt ∧ ((32 : Nat) : Int) + lwO.getD k 0 = ((lwP.getD k 0 : Nat) : Int) := by decide +kernel
theorem lw_lt {L i : Nat} (hL : L ≤ 2560) (hi : i ≤ 2560) (h : ¬ nI L - nI 5 < nI i) : i + 5 ≤ L := by
  rw [Int32.lt_iff_toInt_lt, pk_sub_toInt (by omega) (by omega), nI_toInt (by omega)] at h
  omega
theorem dl_0 : decode code 0 = .ok (.new 7, 3) := by decide +kernel
theorem dl_3 : decode code 3 = .ok (.dup, 1) := by decide +kernel
theorem dl_4 : decode code 4 = .ok (.invokespecial 9, 3) := by decide +kernel
theorem dl_7 : decode code 7 = .ok (.astore_n 1, 1) := by decide +kernel
theorem dl_8 : decode code 8 = .ok (.new 10, 3) := by decide +kernel
theorem dl_11 : decode code 11 = .ok (.dup, 1) := by decide +kernel
theorem dl_12 : decode code 12 = .ok (.invokespecial 12, 3) := by decide +kernel
theorem dl_15 : decode code 15 = .ok (.astore_n 2, 1) := by decide +kernel
theorem dl_16 : decode code 16 = .ok (.iconst 0, 1) := by decide +kernel
theorem dl_17 : decode code 17 = .ok (.istore_n 3, 1) := by decide +kernel
theorem dl_18 : decode code 18 = .ok (.iload_n 3, 1) := by decide +kernel
theorem dl_19 : decode code 19 = .ok (.aload_n 0, 1) := by decide +kernel
theorem dl_20 : decode code 20 = .ok (.arraylength, 1) := by decide +kernel
theorem dl_21 : decode code 21 = .ok (.iconst 5, 1) := by decide +kernel
theorem dl_22 : decode code 22 = .ok (.isub, 1) := by decide +kernel
theorem dl_23 : decode code 23 = .ok (.if_icmp .gt 1514, 3) := by decide +kernel
theorem dl_26 : decode code 26 = .ok (.aload_n 0, 1) := by decide +kernel
theorem dl_27 : decode code 27 = .ok (.iload_n 3, 1) := by decide +kernel
theorem dl_28 : decode code 28 = .ok (.iaload, 1) := by decide +kernel
theorem dl_29 : decode code 29 = .ok (.bipush 63, 2) := by decide +kernel
theorem dl_31 : decode code 31 = .ok (.iand, 1) := by decide +kernel
theorem dl_32 : decode code 32 = .ok (.tableswitch 1499 0 41 lwO, 184) := by decide +kernel
theorem dl_1531 : decode code 1531 = .ok (.iinc 3 5, 3) := by decide +kernel
theorem dl_1534 : decode code 1534 = .ok (.goto (-1516), 3) := by decide +kernel
theorem dl_1537 : decode code 1537 = .ok (.iconst 1, 1) := by decide +kernel
theorem dl_1538 : decode code 1538 = .ok (.ireturn, 1) := by decide +kernel
section LawLoop
variable {p : Program} {l : Launch} {e : Env} {s : State} {m : MethodId} {args : Array Value} {below : List Frame} {meth : Method} {c : Code} {H : Heap} {locs : List Loc} {Q : State → Prop}
variable {D : va_G} {cs : Cs} {ls : Array Slot}
theorem lw_all (hC : Cw "BikeTownLaw" code 4 p s m args c) {b L i : Nat} {xs : Nat → Int32} {aC aM : Ad} {σ τ : Sg} (hX : va_X b L xs s s.heap) (hbl : b < s.heap.size) (hL : L ≤ 2560) (hl : lv_has ls 4 [(3, .int (nI i)), (2, .ref (aM 69 false 0)), (1, .ref (aC 0 false 0)), (0, .ref b)]) (hi : i + 5 ≤ L) (hW : Lw D cs aC aM σ τ s H locs) (hI : INV σ τ)
    (kk : ∀ (σ' τ' : Sg) (H1 : Heap) (locs1 : List Loc), INV σ' τ' → Lw D cs aC aM σ' τ' s H1 locs1 → W p l e room_1 s m args below meth c H1 locs1 600000 7302250 Q (F0 m 1531 ls [])) (k : Nat) (hk : k < 42) : W p l e room_1 s m args below meth c H locs 600000 7302250 Q (F0 m (lwP.getD k 0) ls []) := by
  match k, hk with
  | 0, _ => exact lc_0 hC hX hbl hL hl hi hW hI kk
  | 1, _ => exact lc_1 hC hX hbl hL hl hi hW hI kk
  | 2, _ => exact lc_2 hC hX hbl hL hl hi hW hI kk
  | 3, _ => exact lc_3 hC hX hbl hL hl hi hW hI kk
  | 4, _ => exact lc_4 hC hX hbl hL hl hi hW hI kk
  | 5, _ => exact lc_5 hC hX hbl hL hl hi hW hI kk
  | 6, _ => exact lc_6 hC hX hbl hL hl hi hW hI kk
  | 7, _ => exact lc_7 hC hX hbl hL hl hi hW hI kk
  | 8, _ => exact lc_8 hC hX hbl hL hl hi hW hI kk
  | 9, _ => exact lc_9 hC hX hbl hL hl hi hW hI kk
  | 10, _ => exact lc_10 hC hX hbl hL hl hi hW hI kk
  | 11, _ => exact lc_11 hC hX hbl hL hl hi hW hI kk
  | 12, _ => exact lc_12 hC hX hbl hL hl hi hW hI kk
  | 13, _ => exact lc_13 hC hX hbl hL hl hi hW hI kk
  | 14, _ => exact lc_14 hC hX hbl hL hl hi hW hI kk
  | 15, _ => exact lc_15 hC hX hbl hL hl hi hW hI kk
  | 16, _ => exact lc_16 hC hX hbl hL hl hi hW hI kk
  | 17, _ => exact lc_17 hC hX hbl hL hl hi hW hI kk
  | 18, _ => exact lc_18 hC hX hbl hL hl hi hW hI kk
  | 19, _ => exact lc_19 hC hX hbl hL hl hi hW hI kk
  | 20, _ => exact lc_20 hC hX hbl hL hl hi hW hI kk
  | 21, _ => exact lc_21 hC hX hbl hL hl hi hW hI kk
  | 22, _ => exact lc_22 hC hX hbl hL hl hi hW hI kk
  | 23, _ => exact lc_23 hC hX hbl hL hl hi hW hI kk
  | 24, _ => exact lc_24 hC hX hbl hL hl hi hW hI kk
  | 25, _ => exact lc_25 hC hX hbl hL hl hi hW hI kk
  | 26, _ => exact lc_26 hC hX hbl hL hl hi hW hI kk
  | 27, _ => exact lc_27 hC hX hbl hL hl hi hW hI kk
  | 28, _ => exact lc_28 hC hX hbl hL hl hi hW hI kk
  | 29, _ => exact lc_29 hC hX hbl hL hl hi hW hI kk
  | 30, _ => exact lc_30 hC hX hbl hL hl hi hW hI kk
  | 31, _ => exact lc_31 hC hX hbl hL hl hi hW hI kk
  | 32, _ => exact lc_32 hC hX hbl hL hl hi hW hI kk
  | 33, _ => exact lc_33 hC hX hbl hL hl hi hW hI kk
  | 34, _ => exact lc_34 hC hX hbl hL hl hi hW hI kk
  | 35, _ => exact lc_35 hC hX hbl hL hl hi hW hI kk
  | 36, _ => exact lc_36 hC hX hbl hL hl hi hW hI kk
  | 37, _ => exact lc_37 hC hX hbl hL hl hi hW hI kk
  | 38, _ => exact lc_38 hC hX hbl hL hl hi hW hI kk
  | 39, _ => exact lc_39 hC hX hbl hL hl hi hW hI kk
  | 40, _ => exact lc_40 hC hX hbl hL hl hi hW hI kk
  | 41, _ => exact lc_41 hC hX hbl hL hl hi hW hI kk
  | k + 42, hk => omega
theorem lw_turn {b L i : Nat} (hr : meth.sig.returnType = ret) (hlocks : meth.locks = false) (hC : Cw "BikeTownLaw" code 4 p s m #[Value.ref b] c) {xs : Nat → Int32} {aC aM : Ad} {σ τ : Sg} (hX : va_X b L xs s s.heap) (hbl : b < s.heap.size) (hL : L ≤ 2560) (hl : lv_has ls 4 [(3, .int (nI i)), (2, .ref (aM 69 false 0)), (1, .ref (aC 0 false 0)), (0, .ref b)]) (hi : i ≤ 2560) (hW : Lw D cs aC aM σ τ s H locs) (hI : INV σ τ)
    (kk : i + 5 ≤ L → ∀ (σ' τ' : Sg) (H1 : Heap) (locs1 : List Loc) (ls1 : Array Slot), INV σ' τ' → Lw D cs aC aM σ' τ' s H1 locs1 → lv_has ls1 4 [(3, .int (nI (i + 5))), (2, .ref (aM 69 false 0)), (1, .ref (aC 0 false 0)), (0, .ref b)] → W p l e room_1 s m #[Value.ref b] below meth c H1 locs1 600000 7302250 (lw_Z below #[Value.ref b] s) (F0 m 18 ls1 [])) : W p l e room_1 s m #[Value.ref b] below meth c H locs 600000 7302250 (lw_Z below #[Value.ref b] s) (F0 m 18 ls []) := by
  refine lv_iload_n hC.1 hC.2.1 dl_18 rfl (lv_at hl 0 rfl) ?_
  refine lv_aload_n hC.1 hC.2.1 dl_19 rfl (lv_at hl 3 rfl) ?_
  refine va_slen (A := fun q => s.heap.size ≤ q) hC.1 hC.2.1 hX hbl (Nat.not_le.mpr hbl) hW.2.2.2.1 dl_20 ?_
  refine lv_iconst (v := nI 5) hC.1 hC.2.1 dl_21 rfl ?_
  refine lv_isub hC.1 hC.2.1 dl_22 ?_
  refine lv_icmp_gt hC.1 hC.2.1 dl_23 (tgt := 1537) (by decide) (fun _ => ?_) (fun hn => ?_)
  · refine lv_iconst (v := 1) hC.1 hC.2.1 dl_1537 (by decide) ?_
    exact va_forget (fun q hq => hW.2.2.2.1.2.2 q hq) (lw_ret hC.1 hC.2.1 hr hlocks dl_1538)
  · have h5 : i + 5 ≤ L := lw_lt hL hi hn
    refine lv_aload_n hC.1 hC.2.1 dl_26 rfl (lv_at hl 3 rfl) ?_
    refine lv_iload_n hC.1 hC.2.1 dl_27 rfl (lv_at hl 0 rfl) ?_
    refine va_sld (A := fun q => s.heap.size ≤ q) hC.1 hC.2.1 hX hbl (Nat.not_le.mpr hbl) hW.2.2.2.1 (nI_in (show i < L by omega) (by omega)) dl_28 ?_
    refine lv_bipush (v := 63) hC.1 hC.2.1 dl_29 (by decide) ?_
    refine lv_iand hC.1 hC.2.1 dl_31 ?_
    obtain ⟨k, hk, ek⟩ := pk_andE (xs (nI i).toNatClampNeg) (m := 63) 6 (by decide)
    rw [ek]
    have hk1 : ∀ (σ' τ' : Sg) (H1 : Heap) (locs1 : List Loc), INV σ' τ' → Lw D cs aC aM σ' τ' s H1 locs1 → W p l e room_1 s m #[Value.ref b] below meth c H1 locs1 600000 7302250 (lw_Z below #[Value.ref b] s) (F0 m 1531 ls []) := fun σ' τ' H1 locs1 hI hW => by
      refine lv_iinc (k := 0) (v := nI (i + 5)) hC.1 hC.2.1 dl_1531 hl rfl (nI_add i 5) (by decide) rfl (fun ls1 hl1 => ?_)
      refine lv_goto hC.1 hC.2.1 dl_1534 (tgt := 18) (by decide) ?_
      exact kk h5 σ' τ' H1 locs1 ls1 hI hW hl1
    by_cases h42 : k < 42
    · obtain ⟨t1, t2, t3, t4⟩ := lw_tab k h42
      refine lv_tableIn hC.1 hC.2.1 dl_32 t2 t3 t1 t4 ?_
      exact lw_all hC hX hbl hL hl h5 hW hI hk1 k h42
    · refine lv_tableOut hC.1 hC.2.1 dl_32 (.inr ?_) (tgt := 1531) (by decide) (hk1 σ τ H locs hI hW)
      rw [nI_toInt (by omega)]
      omega
theorem lw_loop {b L : Nat} (hr : meth.sig.returnType = ret) (hlocks : meth.locks = false) (hC : Cw "BikeTownLaw" code 4 p s m #[Value.ref b] c) {xs : Nat → Int32} {aC aM : Ad} (hX : va_X b L xs s s.heap) (hbl : b < s.heap.size) (hL : L ≤ 2560) : ∀ (n i : Nat) (σ τ : Sg) (H : Heap) (locs : List Loc) (ls : Array Slot), L ≤ i + n → i ≤ 2560 → INV σ τ → Lw D cs aC aM σ τ s H locs → lv_has ls 4 [(3, .int (nI i)), (2, .ref (aM 69 false 0)), (1, .ref (aC 0 false 0)), (0, .ref b)] → W p l e room_1 s m #[Value.ref b] below meth c H locs 600000 7302250 (lw_Z below #[Value.ref b] s) (F0 m 18 ls []) := by
  intro n
  induction n with
  | zero => exact fun i σ τ H locs ls h1 h2 hI hW hl => lw_turn hr hlocks hC hX hbl hL hl h2 hW hI (fun h => absurd h (by omega))
  | succ n ih => exact fun i σ τ H locs ls h1 h2 hI hW hl => lw_turn hr hlocks hC hX hbl hL hl h2 hW hI (fun h σ' τ' H1 locs1 ls1 hI hW hl => ih (i + 5) σ' τ' H1 locs1 ls1 (by omega) (by omega) hI hW hl)
end LawLoop
set_option maxHeartbeats 4000000 in
set_option maxRecDepth 100000 in
/-- the law from its entry -/
theorem whole_start {p : Program} {e : Env} {s : State} {m : MethodId} {below : List Frame} {meth : Method} {c : Code} (l : Launch) (hflags : l.flags = flags0) {b L : Nat} {xs : Nat → Int32} (hL : L ≤ 2560) (C0 : lw_At p s m meth c b L xs) : W p l e room_1 s m #[Value.ref b] below meth c s.heap [] 0 0 (lw_Z below #[Value.ref b] s) (entryFrame m ([Value.ref b] : List Value).toArray 4) := by
  obtain ⟨hx, hb, hr, hml, hown, hts, hX, hbl, hlocks, hgv⟩ := C0
  have hC : Cw "BikeTownLaw" code 4 p s m #[Value.ref b] c := ⟨hx, hb, hml, hown, lw_hts hts⟩
  obtain ⟨D, cs, hK, hRk⟩ := lw_known hts
  have hW : Wn D cs (fun q => s.heap.size ≤ q) [] s s.heap [] := ⟨⟨fun k q h => by simp at h, ⟨hK, hRk⟩, ⟨fun i j p q h => by simp at h, fun k q h => by simp at h⟩⟩, va_S.rf, fun _ h => h⟩
  have hl := lv_entry ([.ref b]) (n := 4) (Nat.le_of_ble_eq_true rfl)
  rw [lg_entry_eq]
  generalize (lg_sl ([.ref b]) ++ List.replicate (4 - (lg_sl ([.ref b])).length) Slot.unset).toArray = ls at hl ⊢
  have hl : lv_has ls 4 [(0, .ref b)] := hl
  refine kr_obj hC hW (ci := 11) (w1 := 95) (w2 := 96) (w3 := 79) (N := 10) rfl tyX11 tyX11_ok (by decide +kernel) (by decide +kernel) (by decide +kernel) (by exact Nat.le_of_ble_eq_true rfl) (by exact Nat.le_of_ble_eq_true rfl) dl_0 (fun q0 H hW => ?_)
  refine lv_dup hC.1 hC.2.1 dl_3 rfl ?_
  refine kr_call (ws := []) (rest := [.ref q0]) hC hW (k_BikeTown l D cs q0 H.size) (wc := 99) (wi := 79) (wm := 98) (wl := 97) (n := 0) (by decide +kernel) (by decide +kernel) (by decide +kernel) (.inl (by decide +kernel)) rfl (by decide +kernel) ⟨(by exact Nat.le_of_ble_eq_true rfl), (by exact Nat.le_of_ble_eq_true rfl)⟩ rfl hl.1 rfl (by exact Nat.le_of_ble_eq_true rfl) dl_4 (by exact Nat.le_of_ble_eq_true rfl) (by exact Nat.le_of_ble_eq_true rfl) (fun w1 H locs hp1 hW => ?_)
  obtain ⟨aC, gC, rfl⟩ := hp1
  obtain ⟨T1, eT1⟩ : ∃ z, z = cnL Lk_BikeTown cs aC sC := ⟨_, rfl⟩
  rw [List.nil_append, ← eT1] at hW
  refine lv_astore_n (lv' := [(1, .ref q0), (0, .ref b)]) hC.1 hC.2.1 dl_7 rfl hl (by decide) rfl (fun ls hl => ?_)
  refine kr_obj hC hW (ci := 12) (w1 := 1166) (w2 := 1167) (w3 := 93) (N := 50) rfl tyX12 tyX12_ok (by decide +kernel) (by decide +kernel) (by decide +kernel) (by exact Nat.le_of_ble_eq_true rfl) (by exact Nat.le_of_ble_eq_true rfl) dl_8 (fun q8 H hW => ?_)
  refine lv_dup hC.1 hC.2.1 dl_11 rfl ?_
  refine kr_call (rest := [.ref q8]) hC hW (k_Model l D cs q8 H.size) (wc := 1170) (wi := 93) (wm := 1169) (wl := 1168) (n := 0) (by decide +kernel) (by decide +kernel) (by decide +kernel) (.inl (by decide +kernel)) rfl (by decide +kernel) ⟨(by exact Nat.le_of_ble_eq_true rfl), (by exact Nat.le_of_ble_eq_true rfl)⟩ rfl hl.1 rfl (by exact Nat.le_of_ble_eq_true rfl) dl_12 (by exact Nat.le_of_ble_eq_true rfl) (by exact Nat.le_of_ble_eq_true rfl) (fun w2 H locs hp2 hW => ?_)
  obtain ⟨aM, τ, gM, hA, rfl⟩ := hp2
  rw [eT1] at hW
  have hW := Lw_of hW
  refine W.widen (k := 600000) (n := 7302250) (by exact Nat.le_of_ble_eq_true rfl) (by exact Nat.le_of_ble_eq_true rfl) ?_
  refine lv_astore_n (lv' := [(2, .ref q8), (1, .ref q0), (0, .ref b)]) hC.1 hC.2.1 dl_15 rfl hl (by decide) rfl (fun ls hl => ?_)
  refine lv_iconst (v := nI 0) hC.1 hC.2.1 dl_16 rfl ?_
  refine lv_istore_n (lv' := [(3, .int (nI 0)), (2, .ref q8), (1, .ref q0), (0, .ref b)]) hC.1 hC.2.1 dl_17 rfl hl (by decide) rfl (fun ls hl => ?_)
  rw [← gC, ← gM] at hl
  exact lw_loop hr hlocks hC hX hbl hL L 0 sC τ H locs ls (by omega) (by omega) (INV0 hA) hW hl
