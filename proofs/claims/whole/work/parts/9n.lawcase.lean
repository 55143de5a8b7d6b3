/-! One case of the law: both are asked the same, and answer alike. -/
/-- the instructions one behind another -/
def chI : List UInt8 → List Instr → Bool
  | _, [] => true
  | bs, ins :: r => decide (decB bs = some ins) && chI (bs.drop (lenOf ins)) r
theorem chI_cons {cc : ByteArray} {pc : Nat} {ins : Instr} {r : List Instr} (h : chI (cc.data.toList.drop pc) (ins :: r) = true) : decode cc pc = .ok (ins, lenOf ins) ∧ chI (cc.data.toList.drop (pc + lenOf ins)) r = true := by
  simp only [chI, Bool.and_eq_true, decide_eq_true_eq] at h
  refine ⟨dec_of h.1, ?_⟩
  have h2 := h.2
  rw [List.drop_drop] at h2
  exact h2
/-- what puts one number of the script on the stack, or one truth -/
def agI (q : Nat × Bool) : List Instr := .aload_n 0 :: .iload_n 3 :: .iconst (Int.ofNat q.1) :: .iadd :: .iaload :: (bif q.2 then [.ifCond .eq 7, .iconst 1, .goto 4, .iconst 0] else [])
def agV (xs : Nat → Int32) (i : Nat) (q : Nat × Bool) : Int32 := bif q.2 then bz (xs (i + q.1)) else xs (i + q.1)
def pcA : Nat → List (Nat × Bool) → Nat
  | pc, [] => pc
  | pc, q :: r => pcA (bif q.2 then pc + 13 else pc + 5) r
/-- that a call of the law is what it says -/
def lwOk (ci mid w idx n : Nat) : Bool := Nat.blt mid nM && ((!mS mid) && (decide ((classes[ci]?).map Prod.fst = some (mY mid).cls) && (decide (mP mid = n) && (decide (mH mid ≤ 8) && decide (wAt w = some (.methodLink "BikeTownLaw" idx (mY mid)))))))
theorem lwOk_spec {ci mid w idx n : Nat} (h : lwOk ci mid w idx n = true) : mid < nM ∧ mS mid = false ∧ (classes[ci]?).map Prod.fst = some (mY mid).cls ∧ mP mid = n ∧ mH mid ≤ 8 ∧ wAt w = some (.methodLink "BikeTownLaw" idx (mY mid)) := by
  simp only [lwOk, Bool.and_eq_true, decide_eq_true_eq, Bool.not_eq_true'] at h
  obtain ⟨h1, h2, h3, h4, h5, h6⟩ := h
  exact ⟨Nat.le_of_ble_eq_true h1, h2, h3, h4, h5, h6⟩
section LawCase
variable {p : Program} {l : Launch} {e : Env} {R : Room} {s : State} {m : MethodId} {args : Array Value} {below : List Frame} {meth : Method} {c : Code} {H : Heap} {locs : List Loc} {cells slots : Nat} {Q : State → Prop}
variable {D : va_G} {cs : Cs} {own : String} {cc : ByteArray} {nL pc : Nat} {ls : Array Slot}
theorem lw_ags (hC : Cw own cc nL p s m args c) {b L i x1 x2 : Nat} {xs : Nat → Int32} (hX : va_X b L xs s s.heap) (hbl : b < s.heap.size) (hL : L ≤ 2560) (hS : va_S (fun q => s.heap.size ≤ q) s.heap H locs) (hl : lv_has ls 4 [(3, .int (nI i)), (2, .ref x2), (1, .ref x1), (0, .ref b)]) (hi : i + 5 ≤ L) (r : List Instr) : ∀ (as : List (Nat × Bool)) (pc : Nat) (rest : List Value), (as.all fun q => decide (q.1 < 5)) = true → chI (cc.data.toList.drop pc) (as.flatMap agI ++ r) = true →
    (chI (cc.data.toList.drop (pcA pc as)) r = true → W p l e R s m args below meth c H locs cells slots Q (F0 m (pcA pc as) ls ((as.map fun q => Value.int (agV xs i q)).reverse ++ rest))) → W p l e R s m args below meth c H locs cells slots Q (F0 m pc ls rest) := by
  intro as
  induction as with
  | nil => exact fun pc rest _ hd kk => kk hd
  | cons q as ih =>
    obtain ⟨k, z⟩ := q
    intro pc rest ha hd kk
    simp only [List.all_cons, Bool.and_eq_true, decide_eq_true_eq] at ha
    have hk : Int32.ofInt (Int.ofNat k) = nI k := by
      rcases (show k = 0 ∨ k = 1 ∨ k = 2 ∨ k = 3 ∨ k = 4 by omega) with rfl | rfl | rfl | rfl | rfl <;> rfl
    have hd : chI (cc.data.toList.drop pc) (.aload_n 0 :: .iload_n 3 :: .iconst (Int.ofNat k) :: .iadd :: .iaload :: ((bif z then [.ifCond .eq 7, .iconst 1, .goto 4, .iconst 0] else []) ++ (as.flatMap agI ++ r))) = true := by
      rw [List.flatMap_cons, List.append_assoc] at hd
      exact hd
    obtain ⟨d0, hd⟩ := chI_cons hd
    obtain ⟨d1, hd⟩ := chI_cons hd
    obtain ⟨d2, hd⟩ := chI_cons hd
    obtain ⟨d3, hd⟩ := chI_cons hd
    obtain ⟨d4, hd⟩ := chI_cons hd
    refine lw_arg hC hX hbl hL hS hl (k := k) (by omega) hk d0 d1 d2 d3 d4 ?_
    cases z with
    | false =>
      refine ih (pc + 5) (.int (xs (i + k)) :: rest) ha.2 hd (fun h => ?_)
      have kk := kk h
      rw [List.map_cons, List.reverse_cons, List.append_assoc] at kk
      exact kk
    | true =>
      obtain ⟨g0, hd⟩ := chI_cons hd
      obtain ⟨g1, hd⟩ := chI_cons hd
      obtain ⟨g2, hd⟩ := chI_cons hd
      obtain ⟨g3, hd⟩ := chI_cons hd
      refine lw_bool hC g0 g1 g2 g3 ?_
      refine ih (pc + 13) (.int (bz (xs (i + k))) :: rest) ha.2 hd (fun h => ?_)
      have kk := kk h
      rw [List.map_cons, List.reverse_cons, List.append_assoc] at kk
      exact kk
theorem lw_st {as : List (Nat × Bool)} {xs : Nat → Int32} {i : Nat} {aa : Ad} {rest : List Value} : (as.map fun q => Value.int (agV xs i q)).reverse ++ rest = ((as.map fun q => (.inl (agV xs i q) : AV)).map (cv aa)).reverse ++ rest := by
  rw [List.map_map]
  rfl
theorem lw_case (hC : Cw "BikeTownLaw" cc 4 p s m args c) {b L i : Nat} {xs : Nat → Int32} {aC aM : Ad} {σ τ : Sg} (hX : va_X b L xs s s.heap) (hbl : b < s.heap.size) (hL : L ≤ 2560) (hl : lv_has ls 4 [(3, .int (nI i)), (2, .ref (aM 69 false 0)), (1, .ref (aC 0 false 0)), (0, .ref b)]) (hi : i + 5 ≤ L) (hRm : 9 ≤ R.frames ∧ 342 ≤ R.locals) (hc : cells ≤ R.cells) (hs : slots ≤ R.slots) (hW : Lw D cs aC aM σ τ s H locs)
    (as : List (Nat × Bool)) {ix im wx wm mx mm tgt : Nat} {off : Int} (ha : (as.all fun q => decide (q.1 < 5)) = true) (hd : chI (cc.data.toList.drop pc) (.aload_n 1 :: (as.flatMap agI ++ (.invokevirtual ix :: .aload_n 2 :: (as.flatMap agI ++ [.invokevirtual im, .if_icmp .eq off])))) = true) (ht : ((pcA (pcA (pc + 1) as + 3 + 1) as + 3 : Nat) : Int) + off = (tgt : Int))
    (hx : lwOk 11 mx wx ix as.length = true) (hm : lwOk 12 mm wm im as.length = true)
    (ev : ∃ r : Int32, ∃ σ' τ', Ev false mx (.inr (.inr (0, false, 0)) :: as.map fun q => .inl (agV xs i q)) σ (some (.inl r)) σ' ∧ Ev true mm (.inr (.inr (69, false, 0)) :: as.map fun q => .inl (agV xs i q)) τ (some (.inl r)) τ' ∧ INV σ' τ')
    (kk : ∀ (σ' τ' : Sg) (H1 : Heap) (locs1 : List Loc), INV σ' τ' → Lw D cs aC aM σ' τ' s H1 locs1 → W p l e R s m args below meth c H1 locs1 cells slots Q (F0 m tgt ls [])) : W p l e R s m args below meth c H locs cells slots Q (F0 m pc ls []) := by
  obtain ⟨r, σ', τ', e1, e2, hI⟩ := ev
  obtain ⟨x1, x2, x3, x4, x5, x6⟩ := lwOk_spec hx
  obtain ⟨y1, y2, y3, y4, y5, y6⟩ := lwOk_spec hm
  obtain ⟨d0, hd⟩ := chI_cons hd
  refine lv_aload_n hC.1 hC.2.1 d0 rfl (lv_at hl 2 rfl) ?_
  refine lw_ags hC hX hbl hL hW.2.2.2.1 hl hi _ as (pc + 1) [.ref (aC 0 false 0)] ha hd (fun hd => ?_)
  obtain ⟨d1, hd⟩ := chI_cons hd
  refine lw_x hC hW (r := .inl r) (σ2 := σ') (vs := as.map fun q => .inl (agV xs i q)) (rest := []) e1 x1 x2 x3 (by rw [x4, List.length_map]) x5 x6 hRm hc hs hl.1 (by exact Nat.le_of_ble_eq_true rfl) lw_st d1 (fun H1 locs1 hW => ?_)
  obtain ⟨d2, hd⟩ := chI_cons hd
  refine lv_aload_n hC.1 hC.2.1 d2 rfl (lv_at hl 1 rfl) ?_
  refine lw_ags hC hX hbl hL hW.2.2.2.1 hl hi _ as (pcA (pc + 1) as + 3 + 1) [.ref (aM 69 false 0), .int r] ha hd (fun hd => ?_)
  obtain ⟨d3, hd⟩ := chI_cons hd
  refine lw_m hC hW (r := .inl r) (τ2 := τ') (vs := as.map fun q => .inl (agV xs i q)) (rest := [.int r]) e2 y1 y2 y3 (by rw [y4, List.length_map]) y5 y6 hRm hc hs hl.1 (by exact Nat.le_of_ble_eq_true rfl) lw_st d3 (fun H2 locs2 hW => ?_)
  obtain ⟨d4, -⟩ := chI_cons hd
  exact lv_icmp_eq hC.1 hC.2.1 d4 ht (fun _ => kk σ' τ' H2 locs2 hI hW) (fun h => absurd rfl h)
/-- the case of the digest -/
theorem lw_caseL (hC : Cw "BikeTownLaw" cc 4 p s m args c) {b i : Nat} {aC aM : Ad} {σ τ : Sg} (hl : lv_has ls 4 [(3, .int (nI i)), (2, .ref (aM 69 false 0)), (1, .ref (aC 0 false 0)), (0, .ref b)]) (hRm : 9 ≤ R.frames ∧ 342 ≤ R.locals) (hc : cells ≤ R.cells) (hs : slots ≤ R.slots) (hW : Lw D cs aC aM σ τ s H locs)
    {ix im wx wm mx mm tgt : Nat} {off : Int} (hd : chI (cc.data.toList.drop pc) [.aload_n 1, .invokevirtual ix, .aload_n 2, .invokevirtual im] = true) (d4 : decode cc (pc + 8) = .ok (.lcmp, 1)) (d5 : decode cc (pc + 9) = .ok (.ifCond .eq off, 3)) (ht : ((pc + 9 : Nat) : Int) + off = (tgt : Int))
    (hx : lwOk 11 mx wx ix 0 = true) (hm : lwOk 12 mm wm im 0 = true)
    (ev : ∃ r : Int64, ∃ σ' τ', Ev false mx [.inr (.inr (0, false, 0))] σ (some (.inr (.inl r))) σ' ∧ Ev true mm [.inr (.inr (69, false, 0))] τ (some (.inr (.inl r))) τ' ∧ INV σ' τ')
    (kk : ∀ (σ' τ' : Sg) (H1 : Heap) (locs1 : List Loc), INV σ' τ' → Lw D cs aC aM σ' τ' s H1 locs1 → W p l e R s m args below meth c H1 locs1 cells slots Q (F0 m tgt ls [])) : W p l e R s m args below meth c H locs cells slots Q (F0 m pc ls []) := by
  obtain ⟨r, σ', τ', e1, e2, hI⟩ := ev
  obtain ⟨x1, x2, x3, x4, x5, x6⟩ := lwOk_spec hx
  obtain ⟨y1, y2, y3, y4, y5, y6⟩ := lwOk_spec hm
  obtain ⟨d0, hd⟩ := chI_cons hd
  obtain ⟨d1, hd⟩ := chI_cons hd
  obtain ⟨d2, hd⟩ := chI_cons hd
  obtain ⟨d3, -⟩ := chI_cons hd
  refine lv_aload_n hC.1 hC.2.1 d0 rfl (lv_at hl 2 rfl) ?_
  refine lw_x hC hW (r := .inr r) (σ2 := σ') (vs := []) (rest := []) e1 x1 x2 x3 x4 x5 x6 hRm hc hs hl.1 (by exact Nat.le_of_ble_eq_true rfl) rfl d1 (fun H1 locs1 hW => ?_)
  refine lv_aload_n hC.1 hC.2.1 d2 rfl (lv_at hl 1 rfl) ?_
  refine lw_m hC hW (r := .inr r) (τ2 := τ') (vs := []) (rest := [.long r]) e2 y1 y2 y3 y4 y5 y6 hRm hc hs hl.1 (by exact Nat.le_of_ble_eq_true rfl) rfl d3 (fun H2 locs2 hW => ?_)
  refine kr_lcmp hC.1 hC.2.1 d4 ?_
  exact lv_if_eq hC.1 hC.2.1 d5 ht (fun _ => kk σ' τ' H2 locs2 hI hW) (fun h => absurd rfl h)
end LawCase
