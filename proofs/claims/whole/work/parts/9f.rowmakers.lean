/-! The makers that make rows alone. -/
/-- the town's first world, the class's side -/
def sC : Sg := fun k d _ j => bif Nat.beq k 1 then (bif Nat.beq j 3 then 60 else bif Nat.beq j 4 then 500 else 0) else bif Nat.beq k 10 then (if j < 4 then 20 else 0) else bif Nat.beq k 11 then (if j < 4 then 5 else 0) else bif Nat.beq k 26 then (bif Nat.beq j 5 then (-1) else 0) else bif Nat.beq k 37 then (bif Nat.beq j 0 then (bif d then 0 else 4000) else 0) else bif Nat.beq k 44 then (bif Nat.beq j 3 then (-1) else 0) else 0
def cnL (L : List Lb) (cs : Cs) (as : Ad) (σ : Sg) : va_W := L.map fun c => (as c.1 c.2.1 c.2.2, cel cs as σ c.1 c.2.1 c.2.2)
def lbK (k : Nat) (d : Bool) : List Lb := match shp k with
  | none => []
  | some (_, s) => (List.range (rowsOf s + 1)).map fun i => (k, d, i)
def gdA (q : Nat) : Nat → Nat
  | 0 => q
  | j + 1 => q + 1 + j
theorem mw_ai : wAt 181 = some (.arrayClass .int) := by decide +kernel
theorem mw_az : wAt 230 = some (.arrayClass .boolean) := by decide +kernel
theorem dk_Van_0_0 : decode prog_12_method_1_code 0 = .ok (.aload_n 0, 1) := by decide +kernel
theorem dk_Van_0_1 : decode prog_12_method_1_code 1 = .ok (.invokespecial 3, 3) := by decide +kernel
theorem dk_Van_0_4 : decode prog_12_method_1_code 4 = .ok (.aload_n 0, 1) := by decide +kernel
theorem dk_Van_0_5 : decode prog_12_method_1_code 5 = .ok (.iconst (-1), 1) := by decide +kernel
theorem dk_Van_0_6 : decode prog_12_method_1_code 6 = .ok (.putfield 9, 3) := by decide +kernel
theorem dk_Van_0_9 : decode prog_12_method_1_code 9 = .ok (.aload_n 0, 1) := by decide +kernel
theorem dk_Van_0_10 : decode prog_12_method_1_code 10 = .ok (.bipush 12, 2) := by decide +kernel
theorem dk_Van_0_12 : decode prog_12_method_1_code 12 = .ok (.newarray .int, 2) := by decide +kernel
theorem dk_Van_0_14 : decode prog_12_method_1_code 14 = .ok (.putfield 15, 3) := by decide +kernel
theorem dk_Van_0_17 : decode prog_12_method_1_code 17 = .ok (.aload_n 0, 1) := by decide +kernel
theorem dk_Van_0_18 : decode prog_12_method_1_code 18 = .ok (.bipush 20, 2) := by decide +kernel
theorem dk_Van_0_20 : decode prog_12_method_1_code 20 = .ok (.newarray .int, 2) := by decide +kernel
theorem dk_Van_0_22 : decode prog_12_method_1_code 22 = .ok (.putfield 19, 3) := by decide +kernel
theorem dk_Van_0_25 : decode prog_12_method_1_code 25 = .ok (.aload_n 0, 1) := by decide +kernel
theorem dk_Van_0_26 : decode prog_12_method_1_code 26 = .ok (.bipush 20, 2) := by decide +kernel
theorem dk_Van_0_28 : decode prog_12_method_1_code 28 = .ok (.newarray .int, 2) := by decide +kernel
theorem dk_Van_0_30 : decode prog_12_method_1_code 30 = .ok (.putfield 22, 3) := by decide +kernel
theorem dk_Van_0_33 : decode prog_12_method_1_code 33 = .ok (.return_, 1) := by decide +kernel
def Lk_Van_0 : List Lb := (44, false, 0) :: (((([] : List Lb) ++ lbK 45 false) ++ lbK 46 false) ++ lbK 47 false)
theorem k_Van_0 (l : Launch) (D : va_G) (cs : Cs) (h0 sz : Nat) : Kt l ⟨"BikeTown$Van", "<init>", "()V"⟩ prog_12_method_1_code 1 [] D cs h0 sz (10, dfS 7 tyX10) 1 3 52 (fun w1 => ∃ a : Ad, a 44 false 0 = h0 ∧ w1 = cnL Lk_Van_0 cs a sC) := by
  refine Met.ofW (cc := prog_12_method_1_code) (maxL := 1) (ret := none) (by decide) rfl ?_
  intro p e s m args below meth c s₁ B hml hv
  obtain ⟨rfl, hsz, hP, hK, hD0⟩ := hv
  subst hsz
  have hlocks := B.notSynchronized
  have hr := B.returns
  have hin : meth.name = "<init>" := (name_of_methodNamed B.named B.method).1
  have hts := atoms_spec (ws := .code ⟨"BikeTown$Van", "<init>", "()V"⟩ prog_12_method_1_code 1 none :: lw_g) B.pre
  have hC : Cw "BikeTown$Van" prog_12_method_1_code 1 p s m (.ref h0 :: []).toArray c := ⟨B.exec, B.bytes, hml, findClass_of_methodNamed B.named, fun w hw => hts w (List.mem_cons_of_mem _ hw)⟩
  have hD := hD0.self (sz := s.heap.size)
  generalize hAe : va_A [(h0, .inr (10, dfS 7 tyX10))] s.heap.size = A at hD ⊢
  have hW : Wn D cs A ((h0, .inr (10, [.int 0, .int 0, .int 0, .int 0, .null, .null, .null])) :: ([] : va_W)) s s.heap [] := ⟨⟨hP, hK, hD⟩, va_S.rf, fun q h => by rw [← hAe]; exact Or.inr h⟩
  have hl := lv_entry (.ref h0 :: []) (n := 1) (Nat.le_of_ble_eq_true rfl)
  rw [lg_entry_eq]
  generalize (lg_sl (.ref h0 :: []) ++ List.replicate (1 - (lg_sl (.ref h0 :: [])).length) Slot.unset).toArray = ls at hl ⊢
  have hl : lv_has ls 1 [(0, .ref h0)] := hl
  refine lv_aload_n hC.1 hC.2.1 dk_Van_0_0 rfl (lv_at hl 0 rfl) ?_
  refine kr_super hC (w1 := 270) (by decide +kernel) hl.1 (by exact Nat.le_of_ble_eq_true rfl) (by exact Nat.le_of_ble_eq_true rfl) dk_Van_0_1 ?_
  refine lv_aload_n hC.1 hC.2.1 dk_Van_0_4 rfl (lv_at hl 0 rfl) ?_
  refine lv_iconst (v := (-1)) hC.1 hC.2.1 dk_Van_0_5 (by decide) ?_
  refine kr_put (b := 3) (w1 := 282) (v := .int (-1)) (ty := .int) (nm := "comesAt") (ds := "I") (N := 7) hC hW rfl (by decide +kernel) (by decide) (by decide +kernel) (by decide +kernel) rfl rfl (by exact Nat.le_of_ble_eq_true rfl) dk_Van_0_6 (fun H locs hW => ?_)
  have hW : Wn D cs A ((h0, .inr (10, [.int 0, .int 0, .int 0, .int (-1), .null, .null, .null])) :: ([] : va_W)) s H locs := hW
  refine lv_aload_n hC.1 hC.2.1 dk_Van_0_9 rfl (lv_at hl 0 rfl) ?_
  refine lv_bipush (v := 12) hC.1 hC.2.1 dk_Van_0_10 (by decide) ?_
  refine kr_newI hC hW (N := 12) mw_ai (by decide) (by decide) (by decide) (by exact Nat.le_of_ble_eq_true rfl) (by exact Nat.le_of_ble_eq_true rfl) dk_Van_0_12 (fun q12 H hW => ?_)
  refine kr_putF (b := 4) (w1 := 285) (v := .ref q12) (ty := (.array .int)) (nm := "loaded") (ds := "[I") (N := 7) hC hin hW rfl (by decide +kernel) (by decide) (by decide +kernel) (by decide +kernel) rfl rfl (by exact Nat.le_of_ble_eq_true rfl) dk_Van_0_14 (fun H locs hW => ?_)
  obtain ⟨T1, eT1⟩ : ∃ z, z = ([] : va_W) ++ [(q12, .inl (cs.1, 12, .inl fun _ => 0))] := ⟨_, rfl⟩
  have hW : Wn D cs A ((h0, .inr (10, [.int 0, .int 0, .int 0, .int (-1), .ref q12, .null, .null])) :: (([] : va_W) ++ [(q12, .inl (cs.1, 12, .inl fun _ => 0))])) s H locs := hW
  rw [← eT1] at hW
  refine lv_aload_n hC.1 hC.2.1 dk_Van_0_17 rfl (lv_at hl 0 rfl) ?_
  refine lv_bipush (v := 20) hC.1 hC.2.1 dk_Van_0_18 (by decide) ?_
  refine kr_newI hC hW (N := 20) mw_ai (by decide) (by decide) (by decide) (by exact Nat.le_of_ble_eq_true rfl) (by exact Nat.le_of_ble_eq_true rfl) dk_Van_0_20 (fun q20 H hW => ?_)
  refine kr_putF (b := 5) (w1 := 286) (v := .ref q20) (ty := (.array .int)) (nm := "stopPost") (ds := "[I") (N := 7) hC hin hW rfl (by decide +kernel) (by decide) (by decide +kernel) (by decide +kernel) rfl rfl (by exact Nat.le_of_ble_eq_true rfl) dk_Van_0_22 (fun H locs hW => ?_)
  obtain ⟨T2, eT2⟩ : ∃ z, z = T1 ++ [(q20, .inl (cs.1, 20, .inl fun _ => 0))] := ⟨_, rfl⟩
  have hW : Wn D cs A ((h0, .inr (10, [.int 0, .int 0, .int 0, .int (-1), .ref q12, .ref q20, .null])) :: (T1 ++ [(q20, .inl (cs.1, 20, .inl fun _ => 0))])) s H locs := hW
  rw [← eT2] at hW
  refine lv_aload_n hC.1 hC.2.1 dk_Van_0_25 rfl (lv_at hl 0 rfl) ?_
  refine lv_bipush (v := 20) hC.1 hC.2.1 dk_Van_0_26 (by decide) ?_
  refine kr_newI hC hW (N := 20) mw_ai (by decide) (by decide) (by decide) (by exact Nat.le_of_ble_eq_true rfl) (by exact Nat.le_of_ble_eq_true rfl) dk_Van_0_28 (fun q28 H hW => ?_)
  refine kr_putF (b := 6) (w1 := 288) (v := .ref q28) (ty := (.array .int)) (nm := "stopNumber") (ds := "[I") (N := 7) hC hin hW rfl (by decide +kernel) (by decide) (by decide +kernel) (by decide +kernel) rfl rfl (by exact Nat.le_of_ble_eq_true rfl) dk_Van_0_30 (fun H locs hW => ?_)
  obtain ⟨T3, eT3⟩ : ∃ z, z = T2 ++ [(q28, .inl (cs.1, 20, .inl fun _ => 0))] := ⟨_, rfl⟩
  have hW : Wn D cs A ((h0, .inr (10, [.int 0, .int 0, .int 0, .int (-1), .ref q12, .ref q20, .ref q28])) :: (T2 ++ [(q28, .inl (cs.1, 20, .inl fun _ => 0))])) s H locs := hW
  rw [← eT3] at hW
  have hE : ((h0, .inr (10, [.int 0, .int 0, .int 0, .int (-1), .ref q12, .ref q20, .ref q28])) :: T3 : va_W) = cnL Lk_Van_0 cs (fun k d i => bif Nat.beq k 44 then h0 else bif Nat.beq k 45 then gdA q12 i else bif Nat.beq k 46 then gdA q20 i else bif Nat.beq k 47 then gdA q28 i else 0) sC := by
    subst eT1 eT2 eT3
    rfl
  refine W.widen (k := 3) (n := 52) (by exact Nat.le_of_ble_eq_true rfl) (by exact Nat.le_of_ble_eq_true rfl) ?_
  exact W.vret hC.1 hC.2.1 hr (fun t ht hWm => ⟨⟨_, rfl, ⟨_, rfl, hE⟩, by rw [ht]; exact hW.1.1, va_K.moved hWm.alike hW.1.2.1.1, hW.1.2.2⟩, hW.2.1.F ht⟩) hW.2.1.2.2 dk_Van_0_33
def Lk_Van_1 : List Lb := (44, true, 0) :: (((([] : List Lb) ++ lbK 45 true) ++ lbK 46 true) ++ lbK 47 true)
theorem k_Van_1 (l : Launch) (D : va_G) (cs : Cs) (h0 sz : Nat) : Kt l ⟨"BikeTown$Van", "<init>", "()V"⟩ prog_12_method_1_code 1 [] D cs h0 sz (10, dfS 7 tyX10) 1 3 52 (fun w1 => ∃ a : Ad, a 44 true 0 = h0 ∧ w1 = cnL Lk_Van_1 cs a sC) := by
  refine Met.ofW (cc := prog_12_method_1_code) (maxL := 1) (ret := none) (by decide) rfl ?_
  intro p e s m args below meth c s₁ B hml hv
  obtain ⟨rfl, hsz, hP, hK, hD0⟩ := hv
  subst hsz
  have hlocks := B.notSynchronized
  have hr := B.returns
  have hin : meth.name = "<init>" := (name_of_methodNamed B.named B.method).1
  have hts := atoms_spec (ws := .code ⟨"BikeTown$Van", "<init>", "()V"⟩ prog_12_method_1_code 1 none :: lw_g) B.pre
  have hC : Cw "BikeTown$Van" prog_12_method_1_code 1 p s m (.ref h0 :: []).toArray c := ⟨B.exec, B.bytes, hml, findClass_of_methodNamed B.named, fun w hw => hts w (List.mem_cons_of_mem _ hw)⟩
  have hD := hD0.self (sz := s.heap.size)
  generalize hAe : va_A [(h0, .inr (10, dfS 7 tyX10))] s.heap.size = A at hD ⊢
  have hW : Wn D cs A ((h0, .inr (10, [.int 0, .int 0, .int 0, .int 0, .null, .null, .null])) :: ([] : va_W)) s s.heap [] := ⟨⟨hP, hK, hD⟩, va_S.rf, fun q h => by rw [← hAe]; exact Or.inr h⟩
  have hl := lv_entry (.ref h0 :: []) (n := 1) (Nat.le_of_ble_eq_true rfl)
  rw [lg_entry_eq]
  generalize (lg_sl (.ref h0 :: []) ++ List.replicate (1 - (lg_sl (.ref h0 :: [])).length) Slot.unset).toArray = ls at hl ⊢
  have hl : lv_has ls 1 [(0, .ref h0)] := hl
  refine lv_aload_n hC.1 hC.2.1 dk_Van_0_0 rfl (lv_at hl 0 rfl) ?_
  refine kr_super hC (w1 := 270) (by decide +kernel) hl.1 (by exact Nat.le_of_ble_eq_true rfl) (by exact Nat.le_of_ble_eq_true rfl) dk_Van_0_1 ?_
  refine lv_aload_n hC.1 hC.2.1 dk_Van_0_4 rfl (lv_at hl 0 rfl) ?_
  refine lv_iconst (v := (-1)) hC.1 hC.2.1 dk_Van_0_5 (by decide) ?_
  refine kr_put (b := 3) (w1 := 282) (v := .int (-1)) (ty := .int) (nm := "comesAt") (ds := "I") (N := 7) hC hW rfl (by decide +kernel) (by decide) (by decide +kernel) (by decide +kernel) rfl rfl (by exact Nat.le_of_ble_eq_true rfl) dk_Van_0_6 (fun H locs hW => ?_)
  have hW : Wn D cs A ((h0, .inr (10, [.int 0, .int 0, .int 0, .int (-1), .null, .null, .null])) :: ([] : va_W)) s H locs := hW
  refine lv_aload_n hC.1 hC.2.1 dk_Van_0_9 rfl (lv_at hl 0 rfl) ?_
  refine lv_bipush (v := 12) hC.1 hC.2.1 dk_Van_0_10 (by decide) ?_
  refine kr_newI hC hW (N := 12) mw_ai (by decide) (by decide) (by decide) (by exact Nat.le_of_ble_eq_true rfl) (by exact Nat.le_of_ble_eq_true rfl) dk_Van_0_12 (fun q12 H hW => ?_)
  refine kr_putF (b := 4) (w1 := 285) (v := .ref q12) (ty := (.array .int)) (nm := "loaded") (ds := "[I") (N := 7) hC hin hW rfl (by decide +kernel) (by decide) (by decide +kernel) (by decide +kernel) rfl rfl (by exact Nat.le_of_ble_eq_true rfl) dk_Van_0_14 (fun H locs hW => ?_)
  obtain ⟨T1, eT1⟩ : ∃ z, z = ([] : va_W) ++ [(q12, .inl (cs.1, 12, .inl fun _ => 0))] := ⟨_, rfl⟩
  have hW : Wn D cs A ((h0, .inr (10, [.int 0, .int 0, .int 0, .int (-1), .ref q12, .null, .null])) :: (([] : va_W) ++ [(q12, .inl (cs.1, 12, .inl fun _ => 0))])) s H locs := hW
  rw [← eT1] at hW
  refine lv_aload_n hC.1 hC.2.1 dk_Van_0_17 rfl (lv_at hl 0 rfl) ?_
  refine lv_bipush (v := 20) hC.1 hC.2.1 dk_Van_0_18 (by decide) ?_
  refine kr_newI hC hW (N := 20) mw_ai (by decide) (by decide) (by decide) (by exact Nat.le_of_ble_eq_true rfl) (by exact Nat.le_of_ble_eq_true rfl) dk_Van_0_20 (fun q20 H hW => ?_)
  refine kr_putF (b := 5) (w1 := 286) (v := .ref q20) (ty := (.array .int)) (nm := "stopPost") (ds := "[I") (N := 7) hC hin hW rfl (by decide +kernel) (by decide) (by decide +kernel) (by decide +kernel) rfl rfl (by exact Nat.le_of_ble_eq_true rfl) dk_Van_0_22 (fun H locs hW => ?_)
  obtain ⟨T2, eT2⟩ : ∃ z, z = T1 ++ [(q20, .inl (cs.1, 20, .inl fun _ => 0))] := ⟨_, rfl⟩
  have hW : Wn D cs A ((h0, .inr (10, [.int 0, .int 0, .int 0, .int (-1), .ref q12, .ref q20, .null])) :: (T1 ++ [(q20, .inl (cs.1, 20, .inl fun _ => 0))])) s H locs := hW
  rw [← eT2] at hW
  refine lv_aload_n hC.1 hC.2.1 dk_Van_0_25 rfl (lv_at hl 0 rfl) ?_
  refine lv_bipush (v := 20) hC.1 hC.2.1 dk_Van_0_26 (by decide) ?_
  refine kr_newI hC hW (N := 20) mw_ai (by decide) (by decide) (by decide) (by exact Nat.le_of_ble_eq_true rfl) (by exact Nat.le_of_ble_eq_true rfl) dk_Van_0_28 (fun q28 H hW => ?_)
  refine kr_putF (b := 6) (w1 := 288) (v := .ref q28) (ty := (.array .int)) (nm := "stopNumber") (ds := "[I") (N := 7) hC hin hW rfl (by decide +kernel) (by decide) (by decide +kernel) (by decide +kernel) rfl rfl (by exact Nat.le_of_ble_eq_true rfl) dk_Van_0_30 (fun H locs hW => ?_)
  obtain ⟨T3, eT3⟩ : ∃ z, z = T2 ++ [(q28, .inl (cs.1, 20, .inl fun _ => 0))] := ⟨_, rfl⟩
  have hW : Wn D cs A ((h0, .inr (10, [.int 0, .int 0, .int 0, .int (-1), .ref q12, .ref q20, .ref q28])) :: (T2 ++ [(q28, .inl (cs.1, 20, .inl fun _ => 0))])) s H locs := hW
  rw [← eT3] at hW
  have hE : ((h0, .inr (10, [.int 0, .int 0, .int 0, .int (-1), .ref q12, .ref q20, .ref q28])) :: T3 : va_W) = cnL Lk_Van_1 cs (fun k d i => bif Nat.beq k 44 then h0 else bif Nat.beq k 45 then gdA q12 i else bif Nat.beq k 46 then gdA q20 i else bif Nat.beq k 47 then gdA q28 i else 0) sC := by
    subst eT1 eT2 eT3
    rfl
  refine W.widen (k := 3) (n := 52) (by exact Nat.le_of_ble_eq_true rfl) (by exact Nat.le_of_ble_eq_true rfl) ?_
  exact W.vret hC.1 hC.2.1 hr (fun t ht hWm => ⟨⟨_, rfl, ⟨_, rfl, hE⟩, by rw [ht]; exact hW.1.1, va_K.moved hWm.alike hW.1.2.1.1, hW.1.2.2⟩, hW.2.1.F ht⟩) hW.2.1.2.2 dk_Van_0_33
theorem dk_Rules_0 : decode prog_8_method_1_code 0 = .ok (.aload_n 0, 1) := by decide +kernel
theorem dk_Rules_1 : decode prog_8_method_1_code 1 = .ok (.invokespecial 5, 3) := by decide +kernel
theorem dk_Rules_4 : decode prog_8_method_1_code 4 = .ok (.aload_n 0, 1) := by decide +kernel
theorem dk_Rules_5 : decode prog_8_method_1_code 5 = .ok (.bipush 40, 2) := by decide +kernel
theorem dk_Rules_7 : decode prog_8_method_1_code 7 = .ok (.newarray .int, 2) := by decide +kernel
theorem dk_Rules_9 : decode prog_8_method_1_code 9 = .ok (.putfield 11, 3) := by decide +kernel
theorem dk_Rules_12 : decode prog_8_method_1_code 12 = .ok (.aload_n 0, 1) := by decide +kernel
theorem dk_Rules_13 : decode prog_8_method_1_code 13 = .ok (.bipush 10, 2) := by decide +kernel
theorem dk_Rules_15 : decode prog_8_method_1_code 15 = .ok (.bipush 40, 2) := by decide +kernel
theorem dk_Rules_17 : decode prog_8_method_1_code 17 = .ok (.multianewarray 15 2, 4) := by decide +kernel
theorem dk_Rules_21 : decode prog_8_method_1_code 21 = .ok (.putfield 17, 3) := by decide +kernel
theorem dk_Rules_24 : decode prog_8_method_1_code 24 = .ok (.aload_n 0, 1) := by decide +kernel
theorem dk_Rules_25 : decode prog_8_method_1_code 25 = .ok (.bipush 10, 2) := by decide +kernel
theorem dk_Rules_27 : decode prog_8_method_1_code 27 = .ok (.newarray .int, 2) := by decide +kernel
theorem dk_Rules_29 : decode prog_8_method_1_code 29 = .ok (.putfield 20, 3) := by decide +kernel
theorem dk_Rules_32 : decode prog_8_method_1_code 32 = .ok (.aload_n 0, 1) := by decide +kernel
theorem dk_Rules_33 : decode prog_8_method_1_code 33 = .ok (.bipush 10, 2) := by decide +kernel
theorem dk_Rules_35 : decode prog_8_method_1_code 35 = .ok (.newarray .int, 2) := by decide +kernel
theorem dk_Rules_37 : decode prog_8_method_1_code 37 = .ok (.putfield 23, 3) := by decide +kernel
theorem dk_Rules_40 : decode prog_8_method_1_code 40 = .ok (.aload_n 0, 1) := by decide +kernel
theorem dk_Rules_41 : decode prog_8_method_1_code 41 = .ok (.bipush 10, 2) := by decide +kernel
theorem dk_Rules_43 : decode prog_8_method_1_code 43 = .ok (.newarray .boolean, 2) := by decide +kernel
theorem dk_Rules_45 : decode prog_8_method_1_code 45 = .ok (.putfield 26, 3) := by decide +kernel
theorem dk_Rules_48 : decode prog_8_method_1_code 48 = .ok (.aload_n 0, 1) := by decide +kernel
theorem dk_Rules_49 : decode prog_8_method_1_code 49 = .ok (.bipush 9, 2) := by decide +kernel
theorem dk_Rules_51 : decode prog_8_method_1_code 51 = .ok (.newarray .boolean, 2) := by decide +kernel
theorem dk_Rules_53 : decode prog_8_method_1_code 53 = .ok (.putfield 30, 3) := by decide +kernel
theorem dk_Rules_56 : decode prog_8_method_1_code 56 = .ok (.aload_n 0, 1) := by decide +kernel
theorem dk_Rules_57 : decode prog_8_method_1_code 57 = .ok (.bipush 9, 2) := by decide +kernel
theorem dk_Rules_59 : decode prog_8_method_1_code 59 = .ok (.newarray .boolean, 2) := by decide +kernel
theorem dk_Rules_61 : decode prog_8_method_1_code 61 = .ok (.putfield 33, 3) := by decide +kernel
theorem dk_Rules_64 : decode prog_8_method_1_code 64 = .ok (.aload_n 0, 1) := by decide +kernel
theorem dk_Rules_65 : decode prog_8_method_1_code 65 = .ok (.bipush 9, 2) := by decide +kernel
theorem dk_Rules_67 : decode prog_8_method_1_code 67 = .ok (.newarray .boolean, 2) := by decide +kernel
theorem dk_Rules_69 : decode prog_8_method_1_code 69 = .ok (.putfield 36, 3) := by decide +kernel
theorem dk_Rules_72 : decode prog_8_method_1_code 72 = .ok (.return_, 1) := by decide +kernel
def Lk_Rules : List Lb := (12, false, 0) :: ((((((((([] : List Lb) ++ lbK 13 false) ++ lbK 14 false) ++ lbK 15 false) ++ lbK 16 false) ++ lbK 17 false) ++ lbK 18 false) ++ lbK 19 false) ++ lbK 20 false)
theorem k_Rules (l : Launch) (D : va_G) (cs : Cs) (h0 sz : Nat) : Kt l ⟨"BikeTown$Rules", "<init>", "()V"⟩ prog_8_method_1_code 1 [] D cs h0 sz (6, dfS 11 tyX6) 1 18 507 (fun w1 => ∃ a : Ad, a 12 false 0 = h0 ∧ w1 = cnL Lk_Rules cs a sC) := by
  refine Met.ofW (cc := prog_8_method_1_code) (maxL := 1) (ret := none) (by decide) rfl ?_
  intro p e s m args below meth c s₁ B hml hv
  obtain ⟨rfl, hsz, hP, hK, hD0⟩ := hv
  subst hsz
  have hlocks := B.notSynchronized
  have hr := B.returns
  have hin : meth.name = "<init>" := (name_of_methodNamed B.named B.method).1
  have hts := atoms_spec (ws := .code ⟨"BikeTown$Rules", "<init>", "()V"⟩ prog_8_method_1_code 1 none :: lw_g) B.pre
  have hC : Cw "BikeTown$Rules" prog_8_method_1_code 1 p s m (.ref h0 :: []).toArray c := ⟨B.exec, B.bytes, hml, findClass_of_methodNamed B.named, fun w hw => hts w (List.mem_cons_of_mem _ hw)⟩
  have hD := hD0.self (sz := s.heap.size)
  generalize hAe : va_A [(h0, .inr (6, dfS 11 tyX6))] s.heap.size = A at hD ⊢
  have hW : Wn D cs A ((h0, .inr (6, [.null, .int 0, .int 0, .null, .null, .null, .null, .int 0, .null, .null, .null])) :: ([] : va_W)) s s.heap [] := ⟨⟨hP, hK, hD⟩, va_S.rf, fun q h => by rw [← hAe]; exact Or.inr h⟩
  have hl := lv_entry (.ref h0 :: []) (n := 1) (Nat.le_of_ble_eq_true rfl)
  rw [lg_entry_eq]
  generalize (lg_sl (.ref h0 :: []) ++ List.replicate (1 - (lg_sl (.ref h0 :: [])).length) Slot.unset).toArray = ls at hl ⊢
  have hl : lv_has ls 1 [(0, .ref h0)] := hl
  refine lv_aload_n hC.1 hC.2.1 dk_Rules_0 rfl (lv_at hl 0 rfl) ?_
  refine kr_super hC (w1 := 187) (by decide +kernel) hl.1 (by exact Nat.le_of_ble_eq_true rfl) (by exact Nat.le_of_ble_eq_true rfl) dk_Rules_1 ?_
  refine lv_aload_n hC.1 hC.2.1 dk_Rules_4 rfl (lv_at hl 0 rfl) ?_
  refine lv_bipush (v := 40) hC.1 hC.2.1 dk_Rules_5 (by decide) ?_
  refine kr_newI hC hW (N := 40) mw_ai (by decide) (by decide) (by decide) (by exact Nat.le_of_ble_eq_true rfl) (by exact Nat.le_of_ble_eq_true rfl) dk_Rules_7 (fun q7 H hW => ?_)
  refine kr_putF (b := 0) (w1 := 190) (v := .ref q7) (ty := (.array .int)) (nm := "text") (ds := "[I") (N := 11) hC hin hW rfl (by decide +kernel) (by decide) (by decide +kernel) (by decide +kernel) rfl rfl (by exact Nat.le_of_ble_eq_true rfl) dk_Rules_9 (fun H locs hW => ?_)
  obtain ⟨T1, eT1⟩ : ∃ z, z = ([] : va_W) ++ [(q7, .inl (cs.1, 40, .inl fun _ => 0))] := ⟨_, rfl⟩
  have hW : Wn D cs A ((h0, .inr (6, [.ref q7, .int 0, .int 0, .null, .null, .null, .null, .int 0, .null, .null, .null])) :: (([] : va_W) ++ [(q7, .inl (cs.1, 40, .inl fun _ => 0))])) s H locs := hW
  rw [← eT1] at hW
  refine lv_aload_n hC.1 hC.2.1 dk_Rules_12 rfl (lv_at hl 0 rfl) ?_
  refine lv_bipush (v := 10) hC.1 hC.2.1 dk_Rules_13 (by decide) ?_
  refine lv_bipush (v := 40) hC.1 hC.2.1 dk_Rules_15 (by decide) ?_
  refine kr_grid hC hW (w1 := 188) (N := 10) (K := 40) (by decide +kernel) (by decide) (by decide) (by decide) (by decide) (by decide) (by decide) (by exact Nat.le_of_ble_eq_true rfl) (by exact Nat.le_of_ble_eq_true rfl) dk_Rules_17 (fun q17 H hW => ?_)
  refine kr_putF (b := 3) (w1 := 197) (v := .ref q17) (ty := (.array (.array .int))) (nm := "rows") (ds := "[[I") (N := 11) hC hin hW rfl (by decide +kernel) (by decide) (by decide +kernel) (by decide +kernel) rfl rfl (by exact Nat.le_of_ble_eq_true rfl) dk_Rules_21 (fun H locs hW => ?_)
  obtain ⟨T2, eT2⟩ : ∃ z, z = T1 ++ grW cs q17 10 40 := ⟨_, rfl⟩
  have hW : Wn D cs A ((h0, .inr (6, [.ref q7, .int 0, .int 0, .ref q17, .null, .null, .null, .int 0, .null, .null, .null])) :: (T1 ++ grW cs q17 10 40)) s H locs := hW
  rw [← eT2] at hW
  refine lv_aload_n hC.1 hC.2.1 dk_Rules_24 rfl (lv_at hl 0 rfl) ?_
  refine lv_bipush (v := 10) hC.1 hC.2.1 dk_Rules_25 (by decide) ?_
  refine kr_newI hC hW (N := 10) mw_ai (by decide) (by decide) (by decide) (by exact Nat.le_of_ble_eq_true rfl) (by exact Nat.le_of_ble_eq_true rfl) dk_Rules_27 (fun q27 H hW => ?_)
  refine kr_putF (b := 4) (w1 := 198) (v := .ref q27) (ty := (.array .int)) (nm := "lengths") (ds := "[I") (N := 11) hC hin hW rfl (by decide +kernel) (by decide) (by decide +kernel) (by decide +kernel) rfl rfl (by exact Nat.le_of_ble_eq_true rfl) dk_Rules_29 (fun H locs hW => ?_)
  obtain ⟨T3, eT3⟩ : ∃ z, z = T2 ++ [(q27, .inl (cs.1, 10, .inl fun _ => 0))] := ⟨_, rfl⟩
  have hW : Wn D cs A ((h0, .inr (6, [.ref q7, .int 0, .int 0, .ref q17, .ref q27, .null, .null, .int 0, .null, .null, .null])) :: (T2 ++ [(q27, .inl (cs.1, 10, .inl fun _ => 0))])) s H locs := hW
  rw [← eT3] at hW
  refine lv_aload_n hC.1 hC.2.1 dk_Rules_32 rfl (lv_at hl 0 rfl) ?_
  refine lv_bipush (v := 10) hC.1 hC.2.1 dk_Rules_33 (by decide) ?_
  refine kr_newI hC hW (N := 10) mw_ai (by decide) (by decide) (by decide) (by exact Nat.le_of_ble_eq_true rfl) (by exact Nat.le_of_ble_eq_true rfl) dk_Rules_35 (fun q35 H hW => ?_)
  refine kr_putF (b := 5) (w1 := 199) (v := .ref q35) (ty := (.array .int)) (nm := "thenAt") (ds := "[I") (N := 11) hC hin hW rfl (by decide +kernel) (by decide) (by decide +kernel) (by decide +kernel) rfl rfl (by exact Nat.le_of_ble_eq_true rfl) dk_Rules_37 (fun H locs hW => ?_)
  obtain ⟨T4, eT4⟩ : ∃ z, z = T3 ++ [(q35, .inl (cs.1, 10, .inl fun _ => 0))] := ⟨_, rfl⟩
  have hW : Wn D cs A ((h0, .inr (6, [.ref q7, .int 0, .int 0, .ref q17, .ref q27, .ref q35, .null, .int 0, .null, .null, .null])) :: (T3 ++ [(q35, .inl (cs.1, 10, .inl fun _ => 0))])) s H locs := hW
  rw [← eT4] at hW
  refine lv_aload_n hC.1 hC.2.1 dk_Rules_40 rfl (lv_at hl 0 rfl) ?_
  refine lv_bipush (v := 10) hC.1 hC.2.1 dk_Rules_41 (by decide) ?_
  refine kr_newB hC hW (N := 10) mw_az (by decide) (by decide) (by decide) (by exact Nat.le_of_ble_eq_true rfl) (by exact Nat.le_of_ble_eq_true rfl) dk_Rules_43 (fun q43 H hW => ?_)
  refine kr_putF (b := 6) (w1 := 200) (v := .ref q43) (ty := (.array .boolean)) (nm := "isOff") (ds := "[Z") (N := 11) hC hin hW rfl (by decide +kernel) (by decide) (by decide +kernel) (by decide +kernel) rfl rfl (by exact Nat.le_of_ble_eq_true rfl) dk_Rules_45 (fun H locs hW => ?_)
  obtain ⟨T5, eT5⟩ : ∃ z, z = T4 ++ [(q43, .inl (cs.2.1, 10, .inl fun _ => 0))] := ⟨_, rfl⟩
  have hW : Wn D cs A ((h0, .inr (6, [.ref q7, .int 0, .int 0, .ref q17, .ref q27, .ref q35, .ref q43, .int 0, .null, .null, .null])) :: (T4 ++ [(q43, .inl (cs.2.1, 10, .inl fun _ => 0))])) s H locs := hW
  rw [← eT5] at hW
  refine lv_aload_n hC.1 hC.2.1 dk_Rules_48 rfl (lv_at hl 0 rfl) ?_
  refine lv_bipush (v := 9) hC.1 hC.2.1 dk_Rules_49 (by decide) ?_
  refine kr_newB hC hW (N := 9) mw_az (by decide) (by decide) (by decide) (by exact Nat.le_of_ble_eq_true rfl) (by exact Nat.le_of_ble_eq_true rfl) dk_Rules_51 (fun q51 H hW => ?_)
  refine kr_putF (b := 8) (w1 := 204) (v := .ref q51) (ty := (.array .boolean)) (nm := "any") (ds := "[Z") (N := 11) hC hin hW rfl (by decide +kernel) (by decide) (by decide +kernel) (by decide +kernel) rfl rfl (by exact Nat.le_of_ble_eq_true rfl) dk_Rules_53 (fun H locs hW => ?_)
  obtain ⟨T6, eT6⟩ : ∃ z, z = T5 ++ [(q51, .inl (cs.2.1, 9, .inl fun _ => 0))] := ⟨_, rfl⟩
  have hW : Wn D cs A ((h0, .inr (6, [.ref q7, .int 0, .int 0, .ref q17, .ref q27, .ref q35, .ref q43, .int 0, .ref q51, .null, .null])) :: (T5 ++ [(q51, .inl (cs.2.1, 9, .inl fun _ => 0))])) s H locs := hW
  rw [← eT6] at hW
  refine lv_aload_n hC.1 hC.2.1 dk_Rules_56 rfl (lv_at hl 0 rfl) ?_
  refine lv_bipush (v := 9) hC.1 hC.2.1 dk_Rules_57 (by decide) ?_
  refine kr_newB hC hW (N := 9) mw_az (by decide) (by decide) (by decide) (by exact Nat.le_of_ble_eq_true rfl) (by exact Nat.le_of_ble_eq_true rfl) dk_Rules_59 (fun q59 H hW => ?_)
  refine kr_putF (b := 9) (w1 := 205) (v := .ref q59) (ty := (.array .boolean)) (nm := "all") (ds := "[Z") (N := 11) hC hin hW rfl (by decide +kernel) (by decide) (by decide +kernel) (by decide +kernel) rfl rfl (by exact Nat.le_of_ble_eq_true rfl) dk_Rules_61 (fun H locs hW => ?_)
  obtain ⟨T7, eT7⟩ : ∃ z, z = T6 ++ [(q59, .inl (cs.2.1, 9, .inl fun _ => 0))] := ⟨_, rfl⟩
  have hW : Wn D cs A ((h0, .inr (6, [.ref q7, .int 0, .int 0, .ref q17, .ref q27, .ref q35, .ref q43, .int 0, .ref q51, .ref q59, .null])) :: (T6 ++ [(q59, .inl (cs.2.1, 9, .inl fun _ => 0))])) s H locs := hW
  rw [← eT7] at hW
  refine lv_aload_n hC.1 hC.2.1 dk_Rules_64 rfl (lv_at hl 0 rfl) ?_
  refine lv_bipush (v := 9) hC.1 hC.2.1 dk_Rules_65 (by decide) ?_
  refine kr_newB hC hW (N := 9) mw_az (by decide) (by decide) (by decide) (by exact Nat.le_of_ble_eq_true rfl) (by exact Nat.le_of_ble_eq_true rfl) dk_Rules_67 (fun q67 H hW => ?_)
  refine kr_putF (b := 10) (w1 := 206) (v := .ref q67) (ty := (.array .boolean)) (nm := "turned") (ds := "[Z") (N := 11) hC hin hW rfl (by decide +kernel) (by decide) (by decide +kernel) (by decide +kernel) rfl rfl (by exact Nat.le_of_ble_eq_true rfl) dk_Rules_69 (fun H locs hW => ?_)
  obtain ⟨T8, eT8⟩ : ∃ z, z = T7 ++ [(q67, .inl (cs.2.1, 9, .inl fun _ => 0))] := ⟨_, rfl⟩
  have hW : Wn D cs A ((h0, .inr (6, [.ref q7, .int 0, .int 0, .ref q17, .ref q27, .ref q35, .ref q43, .int 0, .ref q51, .ref q59, .ref q67])) :: (T7 ++ [(q67, .inl (cs.2.1, 9, .inl fun _ => 0))])) s H locs := hW
  rw [← eT8] at hW
  have hE : ((h0, .inr (6, [.ref q7, .int 0, .int 0, .ref q17, .ref q27, .ref q35, .ref q43, .int 0, .ref q51, .ref q59, .ref q67])) :: T8 : va_W) = cnL Lk_Rules cs (fun k d i => bif Nat.beq k 12 then h0 else bif Nat.beq k 13 then gdA q7 i else bif Nat.beq k 14 then gdA q17 i else bif Nat.beq k 15 then gdA q27 i else bif Nat.beq k 16 then gdA q35 i else bif Nat.beq k 17 then gdA q43 i else bif Nat.beq k 18 then gdA q51 i else bif Nat.beq k 19 then gdA q59 i else bif Nat.beq k 20 then gdA q67 i else 0) sC := by
    subst eT1 eT2 eT3 eT4 eT5 eT6 eT7 eT8
    rfl
  refine W.widen (k := 18) (n := 507) (by exact Nat.le_of_ble_eq_true rfl) (by exact Nat.le_of_ble_eq_true rfl) ?_
  exact W.vret hC.1 hC.2.1 hr (fun t ht hWm => ⟨⟨_, rfl, ⟨_, rfl, hE⟩, by rw [ht]; exact hW.1.1, va_K.moved hWm.alike hW.1.2.1.1, hW.1.2.2⟩, hW.2.1.F ht⟩) hW.2.1.2.2 dk_Rules_72
theorem dk_Hands_0 : decode prog_5_method_1_code 0 = .ok (.aload_n 0, 1) := by decide +kernel
theorem dk_Hands_1 : decode prog_5_method_1_code 1 = .ok (.invokespecial 3, 3) := by decide +kernel
theorem dk_Hands_4 : decode prog_5_method_1_code 4 = .ok (.aload_n 0, 1) := by decide +kernel
theorem dk_Hands_5 : decode prog_5_method_1_code 5 = .ok (.sipush 200, 3) := by decide +kernel
theorem dk_Hands_8 : decode prog_5_method_1_code 8 = .ok (.newarray .int, 2) := by decide +kernel
theorem dk_Hands_10 : decode prog_5_method_1_code 10 = .ok (.putfield 9, 3) := by decide +kernel
theorem dk_Hands_13 : decode prog_5_method_1_code 13 = .ok (.aload_n 0, 1) := by decide +kernel
theorem dk_Hands_14 : decode prog_5_method_1_code 14 = .ok (.sipush 200, 3) := by decide +kernel
theorem dk_Hands_17 : decode prog_5_method_1_code 17 = .ok (.newarray .int, 2) := by decide +kernel
theorem dk_Hands_19 : decode prog_5_method_1_code 19 = .ok (.putfield 15, 3) := by decide +kernel
theorem dk_Hands_22 : decode prog_5_method_1_code 22 = .ok (.aload_n 0, 1) := by decide +kernel
theorem dk_Hands_23 : decode prog_5_method_1_code 23 = .ok (.sipush 200, 3) := by decide +kernel
theorem dk_Hands_26 : decode prog_5_method_1_code 26 = .ok (.newarray .int, 2) := by decide +kernel
theorem dk_Hands_28 : decode prog_5_method_1_code 28 = .ok (.putfield 18, 3) := by decide +kernel
theorem dk_Hands_31 : decode prog_5_method_1_code 31 = .ok (.aload_n 0, 1) := by decide +kernel
theorem dk_Hands_32 : decode prog_5_method_1_code 32 = .ok (.sipush 200, 3) := by decide +kernel
theorem dk_Hands_35 : decode prog_5_method_1_code 35 = .ok (.newarray .int, 2) := by decide +kernel
theorem dk_Hands_37 : decode prog_5_method_1_code 37 = .ok (.putfield 21, 3) := by decide +kernel
theorem dk_Hands_40 : decode prog_5_method_1_code 40 = .ok (.return_, 1) := by decide +kernel
def Lk_Hands : List Lb := (21, false, 0) :: ((((([] : List Lb) ++ lbK 22 false) ++ lbK 23 false) ++ lbK 24 false) ++ lbK 25 false)
theorem k_Hands (l : Launch) (D : va_G) (cs : Cs) (h0 sz : Nat) : Kt l ⟨"BikeTown$Hands", "<init>", "()V"⟩ prog_5_method_1_code 1 [] D cs h0 sz (3, dfS 5 tyX3) 1 4 800 (fun w1 => ∃ a : Ad, a 21 false 0 = h0 ∧ w1 = cnL Lk_Hands cs a sC) := by
  refine Met.ofW (cc := prog_5_method_1_code) (maxL := 1) (ret := none) (by decide) rfl ?_
  intro p e s m args below meth c s₁ B hml hv
  obtain ⟨rfl, hsz, hP, hK, hD0⟩ := hv
  subst hsz
  have hlocks := B.notSynchronized
  have hr := B.returns
  have hin : meth.name = "<init>" := (name_of_methodNamed B.named B.method).1
  have hts := atoms_spec (ws := .code ⟨"BikeTown$Hands", "<init>", "()V"⟩ prog_5_method_1_code 1 none :: lw_g) B.pre
  have hC : Cw "BikeTown$Hands" prog_5_method_1_code 1 p s m (.ref h0 :: []).toArray c := ⟨B.exec, B.bytes, hml, findClass_of_methodNamed B.named, fun w hw => hts w (List.mem_cons_of_mem _ hw)⟩
  have hD := hD0.self (sz := s.heap.size)
  generalize hAe : va_A [(h0, .inr (3, dfS 5 tyX3))] s.heap.size = A at hD ⊢
  have hW : Wn D cs A ((h0, .inr (3, [.int 0, .null, .null, .null, .null])) :: ([] : va_W)) s s.heap [] := ⟨⟨hP, hK, hD⟩, va_S.rf, fun q h => by rw [← hAe]; exact Or.inr h⟩
  have hl := lv_entry (.ref h0 :: []) (n := 1) (Nat.le_of_ble_eq_true rfl)
  rw [lg_entry_eq]
  generalize (lg_sl (.ref h0 :: []) ++ List.replicate (1 - (lg_sl (.ref h0 :: [])).length) Slot.unset).toArray = ls at hl ⊢
  have hl : lv_has ls 1 [(0, .ref h0)] := hl
  refine lv_aload_n hC.1 hC.2.1 dk_Hands_0 rfl (lv_at hl 0 rfl) ?_
  refine kr_super hC (w1 := 236) (by decide +kernel) hl.1 (by exact Nat.le_of_ble_eq_true rfl) (by exact Nat.le_of_ble_eq_true rfl) dk_Hands_1 ?_
  refine lv_aload_n hC.1 hC.2.1 dk_Hands_4 rfl (lv_at hl 0 rfl) ?_
  refine lv_sipush (v := 200) hC.1 hC.2.1 dk_Hands_5 (by decide) ?_
  refine kr_newI hC hW (N := 200) mw_ai (by decide) (by decide) (by decide) (by exact Nat.le_of_ble_eq_true rfl) (by exact Nat.le_of_ble_eq_true rfl) dk_Hands_8 (fun q8 H hW => ?_)
  refine kr_putF (b := 1) (w1 := 240) (v := .ref q8) (ty := (.array .int)) (nm := "minute") (ds := "[I") (N := 5) hC hin hW rfl (by decide +kernel) (by decide) (by decide +kernel) (by decide +kernel) rfl rfl (by exact Nat.le_of_ble_eq_true rfl) dk_Hands_10 (fun H locs hW => ?_)
  obtain ⟨T1, eT1⟩ : ∃ z, z = ([] : va_W) ++ [(q8, .inl (cs.1, 200, .inl fun _ => 0))] := ⟨_, rfl⟩
  have hW : Wn D cs A ((h0, .inr (3, [.int 0, .ref q8, .null, .null, .null])) :: (([] : va_W) ++ [(q8, .inl (cs.1, 200, .inl fun _ => 0))])) s H locs := hW
  rw [← eT1] at hW
  refine lv_aload_n hC.1 hC.2.1 dk_Hands_13 rfl (lv_at hl 0 rfl) ?_
  refine lv_sipush (v := 200) hC.1 hC.2.1 dk_Hands_14 (by decide) ?_
  refine kr_newI hC hW (N := 200) mw_ai (by decide) (by decide) (by decide) (by exact Nat.le_of_ble_eq_true rfl) (by exact Nat.le_of_ble_eq_true rfl) dk_Hands_17 (fun q17 H hW => ?_)
  refine kr_putF (b := 2) (w1 := 242) (v := .ref q17) (ty := (.array .int)) (nm := "what") (ds := "[I") (N := 5) hC hin hW rfl (by decide +kernel) (by decide) (by decide +kernel) (by decide +kernel) rfl rfl (by exact Nat.le_of_ble_eq_true rfl) dk_Hands_19 (fun H locs hW => ?_)
  obtain ⟨T2, eT2⟩ : ∃ z, z = T1 ++ [(q17, .inl (cs.1, 200, .inl fun _ => 0))] := ⟨_, rfl⟩
  have hW : Wn D cs A ((h0, .inr (3, [.int 0, .ref q8, .ref q17, .null, .null])) :: (T1 ++ [(q17, .inl (cs.1, 200, .inl fun _ => 0))])) s H locs := hW
  rw [← eT2] at hW
  refine lv_aload_n hC.1 hC.2.1 dk_Hands_22 rfl (lv_at hl 0 rfl) ?_
  refine lv_sipush (v := 200) hC.1 hC.2.1 dk_Hands_23 (by decide) ?_
  refine kr_newI hC hW (N := 200) mw_ai (by decide) (by decide) (by decide) (by exact Nat.le_of_ble_eq_true rfl) (by exact Nat.le_of_ble_eq_true rfl) dk_Hands_26 (fun q26 H hW => ?_)
  refine kr_putF (b := 3) (w1 := 244) (v := .ref q26) (ty := (.array .int)) (nm := "a") (ds := "[I") (N := 5) hC hin hW rfl (by decide +kernel) (by decide) (by decide +kernel) (by decide +kernel) rfl rfl (by exact Nat.le_of_ble_eq_true rfl) dk_Hands_28 (fun H locs hW => ?_)
  obtain ⟨T3, eT3⟩ : ∃ z, z = T2 ++ [(q26, .inl (cs.1, 200, .inl fun _ => 0))] := ⟨_, rfl⟩
  have hW : Wn D cs A ((h0, .inr (3, [.int 0, .ref q8, .ref q17, .ref q26, .null])) :: (T2 ++ [(q26, .inl (cs.1, 200, .inl fun _ => 0))])) s H locs := hW
  rw [← eT3] at hW
  refine lv_aload_n hC.1 hC.2.1 dk_Hands_31 rfl (lv_at hl 0 rfl) ?_
  refine lv_sipush (v := 200) hC.1 hC.2.1 dk_Hands_32 (by decide) ?_
  refine kr_newI hC hW (N := 200) mw_ai (by decide) (by decide) (by decide) (by exact Nat.le_of_ble_eq_true rfl) (by exact Nat.le_of_ble_eq_true rfl) dk_Hands_35 (fun q35 H hW => ?_)
  refine kr_putF (b := 4) (w1 := 246) (v := .ref q35) (ty := (.array .int)) (nm := "b") (ds := "[I") (N := 5) hC hin hW rfl (by decide +kernel) (by decide) (by decide +kernel) (by decide +kernel) rfl rfl (by exact Nat.le_of_ble_eq_true rfl) dk_Hands_37 (fun H locs hW => ?_)
  obtain ⟨T4, eT4⟩ : ∃ z, z = T3 ++ [(q35, .inl (cs.1, 200, .inl fun _ => 0))] := ⟨_, rfl⟩
  have hW : Wn D cs A ((h0, .inr (3, [.int 0, .ref q8, .ref q17, .ref q26, .ref q35])) :: (T3 ++ [(q35, .inl (cs.1, 200, .inl fun _ => 0))])) s H locs := hW
  rw [← eT4] at hW
  have hE : ((h0, .inr (3, [.int 0, .ref q8, .ref q17, .ref q26, .ref q35])) :: T4 : va_W) = cnL Lk_Hands cs (fun k d i => bif Nat.beq k 21 then h0 else bif Nat.beq k 22 then gdA q8 i else bif Nat.beq k 23 then gdA q17 i else bif Nat.beq k 24 then gdA q26 i else bif Nat.beq k 25 then gdA q35 i else 0) sC := by
    subst eT1 eT2 eT3 eT4
    rfl
  refine W.widen (k := 4) (n := 800) (by exact Nat.le_of_ble_eq_true rfl) (by exact Nat.le_of_ble_eq_true rfl) ?_
  exact W.vret hC.1 hC.2.1 hr (fun t ht hWm => ⟨⟨_, rfl, ⟨_, rfl, hE⟩, by rw [ht]; exact hW.1.1, va_K.moved hWm.alike hW.1.2.1.1, hW.1.2.2⟩, hW.2.1.F ht⟩) hW.2.1.2.2 dk_Hands_40
theorem dk_Days_0 : decode prog_3_method_1_code 0 = .ok (.aload_n 0, 1) := by decide +kernel
theorem dk_Days_1 : decode prog_3_method_1_code 1 = .ok (.invokespecial 3, 3) := by decide +kernel
theorem dk_Days_4 : decode prog_3_method_1_code 4 = .ok (.aload_n 0, 1) := by decide +kernel
theorem dk_Days_5 : decode prog_3_method_1_code 5 = .ok (.bipush 20, 2) := by decide +kernel
theorem dk_Days_7 : decode prog_3_method_1_code 7 = .ok (.newarray .int, 2) := by decide +kernel
theorem dk_Days_9 : decode prog_3_method_1_code 9 = .ok (.putfield 9, 3) := by decide +kernel
theorem dk_Days_12 : decode prog_3_method_1_code 12 = .ok (.aload_n 0, 1) := by decide +kernel
theorem dk_Days_13 : decode prog_3_method_1_code 13 = .ok (.bipush 20, 2) := by decide +kernel
theorem dk_Days_15 : decode prog_3_method_1_code 15 = .ok (.sipush 288, 3) := by decide +kernel
theorem dk_Days_18 : decode prog_3_method_1_code 18 = .ok (.multianewarray 15 2, 4) := by decide +kernel
theorem dk_Days_22 : decode prog_3_method_1_code 22 = .ok (.putfield 17, 3) := by decide +kernel
theorem dk_Days_25 : decode prog_3_method_1_code 25 = .ok (.return_, 1) := by decide +kernel
def Lk_Days : List Lb := (48, false, 0) :: ((([] : List Lb) ++ lbK 49 false) ++ lbK 50 false)
theorem k_Days (l : Launch) (D : va_G) (cs : Cs) (h0 sz : Nat) : Kt l ⟨"BikeTown$Days", "<init>", "()V"⟩ prog_3_method_1_code 1 [] D cs h0 sz (1, dfS 3 tyX1) 1 22 5800 (fun w1 => ∃ a : Ad, a 48 false 0 = h0 ∧ w1 = cnL Lk_Days cs a sC) := by
  refine Met.ofW (cc := prog_3_method_1_code) (maxL := 1) (ret := none) (by decide) rfl ?_
  intro p e s m args below meth c s₁ B hml hv
  obtain ⟨rfl, hsz, hP, hK, hD0⟩ := hv
  subst hsz
  have hlocks := B.notSynchronized
  have hr := B.returns
  have hin : meth.name = "<init>" := (name_of_methodNamed B.named B.method).1
  have hts := atoms_spec (ws := .code ⟨"BikeTown$Days", "<init>", "()V"⟩ prog_3_method_1_code 1 none :: lw_g) B.pre
  have hC : Cw "BikeTown$Days" prog_3_method_1_code 1 p s m (.ref h0 :: []).toArray c := ⟨B.exec, B.bytes, hml, findClass_of_methodNamed B.named, fun w hw => hts w (List.mem_cons_of_mem _ hw)⟩
  have hD := hD0.self (sz := s.heap.size)
  generalize hAe : va_A [(h0, .inr (1, dfS 3 tyX1))] s.heap.size = A at hD ⊢
  have hW : Wn D cs A ((h0, .inr (1, [.int 0, .null, .null])) :: ([] : va_W)) s s.heap [] := ⟨⟨hP, hK, hD⟩, va_S.rf, fun q h => by rw [← hAe]; exact Or.inr h⟩
  have hl := lv_entry (.ref h0 :: []) (n := 1) (Nat.le_of_ble_eq_true rfl)
  rw [lg_entry_eq]
  generalize (lg_sl (.ref h0 :: []) ++ List.replicate (1 - (lg_sl (.ref h0 :: [])).length) Slot.unset).toArray = ls at hl ⊢
  have hl : lv_has ls 1 [(0, .ref h0)] := hl
  refine lv_aload_n hC.1 hC.2.1 dk_Days_0 rfl (lv_at hl 0 rfl) ?_
  refine kr_super hC (w1 := 416) (by decide +kernel) hl.1 (by exact Nat.le_of_ble_eq_true rfl) (by exact Nat.le_of_ble_eq_true rfl) dk_Days_1 ?_
  refine lv_aload_n hC.1 hC.2.1 dk_Days_4 rfl (lv_at hl 0 rfl) ?_
  refine lv_bipush (v := 20) hC.1 hC.2.1 dk_Days_5 (by decide) ?_
  refine kr_newI hC hW (N := 20) mw_ai (by decide) (by decide) (by decide) (by exact Nat.le_of_ble_eq_true rfl) (by exact Nat.le_of_ble_eq_true rfl) dk_Days_7 (fun q7 H hW => ?_)
  refine kr_putF (b := 1) (w1 := 420) (v := .ref q7) (ty := (.array .int)) (nm := "weekdays") (ds := "[I") (N := 3) hC hin hW rfl (by decide +kernel) (by decide) (by decide +kernel) (by decide +kernel) rfl rfl (by exact Nat.le_of_ble_eq_true rfl) dk_Days_9 (fun H locs hW => ?_)
  obtain ⟨T1, eT1⟩ : ∃ z, z = ([] : va_W) ++ [(q7, .inl (cs.1, 20, .inl fun _ => 0))] := ⟨_, rfl⟩
  have hW : Wn D cs A ((h0, .inr (1, [.int 0, .ref q7, .null])) :: (([] : va_W) ++ [(q7, .inl (cs.1, 20, .inl fun _ => 0))])) s H locs := hW
  rw [← eT1] at hW
  refine lv_aload_n hC.1 hC.2.1 dk_Days_12 rfl (lv_at hl 0 rfl) ?_
  refine lv_bipush (v := 20) hC.1 hC.2.1 dk_Days_13 (by decide) ?_
  refine lv_sipush (v := 288) hC.1 hC.2.1 dk_Days_15 (by decide) ?_
  refine kr_grid hC hW (w1 := 417) (N := 20) (K := 288) (by decide +kernel) (by decide) (by decide) (by decide) (by decide) (by decide) (by decide) (by exact Nat.le_of_ble_eq_true rfl) (by exact Nat.le_of_ble_eq_true rfl) dk_Days_18 (fun q18 H hW => ?_)
  refine kr_putF (b := 2) (w1 := 421) (v := .ref q18) (ty := (.array (.array .int))) (nm := "taken") (ds := "[[I") (N := 3) hC hin hW rfl (by decide +kernel) (by decide) (by decide +kernel) (by decide +kernel) rfl rfl (by exact Nat.le_of_ble_eq_true rfl) dk_Days_22 (fun H locs hW => ?_)
  obtain ⟨T2, eT2⟩ : ∃ z, z = T1 ++ grW cs q18 20 288 := ⟨_, rfl⟩
  have hW : Wn D cs A ((h0, .inr (1, [.int 0, .ref q7, .ref q18])) :: (T1 ++ grW cs q18 20 288)) s H locs := hW
  rw [← eT2] at hW
  have hE : ((h0, .inr (1, [.int 0, .ref q7, .ref q18])) :: T2 : va_W) = cnL Lk_Days cs (fun k d i => bif Nat.beq k 48 then h0 else bif Nat.beq k 49 then gdA q7 i else bif Nat.beq k 50 then gdA q18 i else 0) sC := by
    subst eT1 eT2
    rfl
  refine W.widen (k := 22) (n := 5800) (by exact Nat.le_of_ble_eq_true rfl) (by exact Nat.le_of_ble_eq_true rfl) ?_
  exact W.vret hC.1 hC.2.1 hr (fun t ht hWm => ⟨⟨_, rfl, ⟨_, rfl, hE⟩, by rw [ht]; exact hW.1.1, va_K.moved hWm.alike hW.1.2.1.1, hW.1.2.2⟩, hW.2.1.F ht⟩) hW.2.1.2.2 dk_Days_25
theorem dk_Round_0 : decode prog_7_method_1_code 0 = .ok (.aload_n 0, 1) := by decide +kernel
theorem dk_Round_1 : decode prog_7_method_1_code 1 = .ok (.invokespecial 5, 3) := by decide +kernel
theorem dk_Round_4 : decode prog_7_method_1_code 4 = .ok (.aload_n 0, 1) := by decide +kernel
theorem dk_Round_5 : decode prog_7_method_1_code 5 = .ok (.bipush 12, 2) := by decide +kernel
theorem dk_Round_7 : decode prog_7_method_1_code 7 = .ok (.newarray .int, 2) := by decide +kernel
theorem dk_Round_9 : decode prog_7_method_1_code 9 = .ok (.putfield 11, 3) := by decide +kernel
theorem dk_Round_12 : decode prog_7_method_1_code 12 = .ok (.aload_n 0, 1) := by decide +kernel
theorem dk_Round_13 : decode prog_7_method_1_code 13 = .ok (.bipush 8, 2) := by decide +kernel
theorem dk_Round_15 : decode prog_7_method_1_code 15 = .ok (.newarray .int, 2) := by decide +kernel
theorem dk_Round_17 : decode prog_7_method_1_code 17 = .ok (.putfield 15, 3) := by decide +kernel
theorem dk_Round_20 : decode prog_7_method_1_code 20 = .ok (.aload_n 0, 1) := by decide +kernel
theorem dk_Round_21 : decode prog_7_method_1_code 21 = .ok (.sipush 256, 3) := by decide +kernel
theorem dk_Round_24 : decode prog_7_method_1_code 24 = .ok (.newarray .int, 2) := by decide +kernel
theorem dk_Round_26 : decode prog_7_method_1_code 26 = .ok (.putfield 18, 3) := by decide +kernel
theorem dk_Round_29 : decode prog_7_method_1_code 29 = .ok (.aload_n 0, 1) := by decide +kernel
theorem dk_Round_30 : decode prog_7_method_1_code 30 = .ok (.sipush 2048, 3) := by decide +kernel
theorem dk_Round_33 : decode prog_7_method_1_code 33 = .ok (.newarray .int, 2) := by decide +kernel
theorem dk_Round_35 : decode prog_7_method_1_code 35 = .ok (.putfield 21, 3) := by decide +kernel
theorem dk_Round_38 : decode prog_7_method_1_code 38 = .ok (.return_, 1) := by decide +kernel
def Lk_Round : List Lb := (51, false, 0) :: ((((([] : List Lb) ++ lbK 52 false) ++ lbK 53 false) ++ lbK 54 false) ++ lbK 55 false)
theorem k_Round (l : Launch) (D : va_G) (cs : Cs) (h0 sz : Nat) : Kt l ⟨"BikeTown$Round", "<init>", "()V"⟩ prog_7_method_1_code 1 [] D cs h0 sz (5, dfS 5 tyX5) 1 4 2324 (fun w1 => ∃ a : Ad, a 51 false 0 = h0 ∧ w1 = cnL Lk_Round cs a sC) := by
  refine Met.ofW (cc := prog_7_method_1_code) (maxL := 1) (ret := none) (by decide) rfl ?_
  intro p e s m args below meth c s₁ B hml hv
  obtain ⟨rfl, hsz, hP, hK, hD0⟩ := hv
  subst hsz
  have hlocks := B.notSynchronized
  have hr := B.returns
  have hin : meth.name = "<init>" := (name_of_methodNamed B.named B.method).1
  have hts := atoms_spec (ws := .code ⟨"BikeTown$Round", "<init>", "()V"⟩ prog_7_method_1_code 1 none :: lw_g) B.pre
  have hC : Cw "BikeTown$Round" prog_7_method_1_code 1 p s m (.ref h0 :: []).toArray c := ⟨B.exec, B.bytes, hml, findClass_of_methodNamed B.named, fun w hw => hts w (List.mem_cons_of_mem _ hw)⟩
  have hD := hD0.self (sz := s.heap.size)
  generalize hAe : va_A [(h0, .inr (5, dfS 5 tyX5))] s.heap.size = A at hD ⊢
  have hW : Wn D cs A ((h0, .inr (5, [.null, .null, .int 0, .null, .null])) :: ([] : va_W)) s s.heap [] := ⟨⟨hP, hK, hD⟩, va_S.rf, fun q h => by rw [← hAe]; exact Or.inr h⟩
  have hl := lv_entry (.ref h0 :: []) (n := 1) (Nat.le_of_ble_eq_true rfl)
  rw [lg_entry_eq]
  generalize (lg_sl (.ref h0 :: []) ++ List.replicate (1 - (lg_sl (.ref h0 :: [])).length) Slot.unset).toArray = ls at hl ⊢
  have hl : lv_has ls 1 [(0, .ref h0)] := hl
  refine lv_aload_n hC.1 hC.2.1 dk_Round_0 rfl (lv_at hl 0 rfl) ?_
  refine kr_super hC (w1 := 434) (by decide +kernel) hl.1 (by exact Nat.le_of_ble_eq_true rfl) (by exact Nat.le_of_ble_eq_true rfl) dk_Round_1 ?_
  refine lv_aload_n hC.1 hC.2.1 dk_Round_4 rfl (lv_at hl 0 rfl) ?_
  refine lv_bipush (v := 12) hC.1 hC.2.1 dk_Round_5 (by decide) ?_
  refine kr_newI hC hW (N := 12) mw_ai (by decide) (by decide) (by decide) (by exact Nat.le_of_ble_eq_true rfl) (by exact Nat.le_of_ble_eq_true rfl) dk_Round_7 (fun q7 H hW => ?_)
  refine kr_putF (b := 0) (w1 := 435) (v := .ref q7) (ty := (.array .int)) (nm := "want") (ds := "[I") (N := 5) hC hin hW rfl (by decide +kernel) (by decide) (by decide +kernel) (by decide +kernel) rfl rfl (by exact Nat.le_of_ble_eq_true rfl) dk_Round_9 (fun H locs hW => ?_)
  obtain ⟨T1, eT1⟩ : ∃ z, z = ([] : va_W) ++ [(q7, .inl (cs.1, 12, .inl fun _ => 0))] := ⟨_, rfl⟩
  have hW : Wn D cs A ((h0, .inr (5, [.ref q7, .null, .int 0, .null, .null])) :: (([] : va_W) ++ [(q7, .inl (cs.1, 12, .inl fun _ => 0))])) s H locs := hW
  rw [← eT1] at hW
  refine lv_aload_n hC.1 hC.2.1 dk_Round_12 rfl (lv_at hl 0 rfl) ?_
  refine lv_bipush (v := 8) hC.1 hC.2.1 dk_Round_13 (by decide) ?_
  refine kr_newI hC hW (N := 8) mw_ai (by decide) (by decide) (by decide) (by exact Nat.le_of_ble_eq_true rfl) (by exact Nat.le_of_ble_eq_true rfl) dk_Round_15 (fun q15 H hW => ?_)
  refine kr_putF (b := 1) (w1 := 437) (v := .ref q15) (ty := (.array .int)) (nm := "wanting") (ds := "[I") (N := 5) hC hin hW rfl (by decide +kernel) (by decide) (by decide +kernel) (by decide +kernel) rfl rfl (by exact Nat.le_of_ble_eq_true rfl) dk_Round_17 (fun H locs hW => ?_)
  obtain ⟨T2, eT2⟩ : ∃ z, z = T1 ++ [(q15, .inl (cs.1, 8, .inl fun _ => 0))] := ⟨_, rfl⟩
  have hW : Wn D cs A ((h0, .inr (5, [.ref q7, .ref q15, .int 0, .null, .null])) :: (T1 ++ [(q15, .inl (cs.1, 8, .inl fun _ => 0))])) s H locs := hW
  rw [← eT2] at hW
  refine lv_aload_n hC.1 hC.2.1 dk_Round_20 rfl (lv_at hl 0 rfl) ?_
  refine lv_sipush (v := 256) hC.1 hC.2.1 dk_Round_21 (by decide) ?_
  refine kr_newI hC hW (N := 256) mw_ai (by decide) (by decide) (by decide) (by exact Nat.le_of_ble_eq_true rfl) (by exact Nat.le_of_ble_eq_true rfl) dk_Round_24 (fun q24 H hW => ?_)
  refine kr_putF (b := 3) (w1 := 439) (v := .ref q24) (ty := (.array .int)) (nm := "load") (ds := "[I") (N := 5) hC hin hW rfl (by decide +kernel) (by decide) (by decide +kernel) (by decide +kernel) rfl rfl (by exact Nat.le_of_ble_eq_true rfl) dk_Round_26 (fun H locs hW => ?_)
  obtain ⟨T3, eT3⟩ : ∃ z, z = T2 ++ [(q24, .inl (cs.1, 256, .inl fun _ => 0))] := ⟨_, rfl⟩
  have hW : Wn D cs A ((h0, .inr (5, [.ref q7, .ref q15, .int 0, .ref q24, .null])) :: (T2 ++ [(q24, .inl (cs.1, 256, .inl fun _ => 0))])) s H locs := hW
  rw [← eT3] at hW
  refine lv_aload_n hC.1 hC.2.1 dk_Round_29 rfl (lv_at hl 0 rfl) ?_
  refine lv_sipush (v := 2048) hC.1 hC.2.1 dk_Round_30 (by decide) ?_
  refine kr_newI hC hW (N := 2048) mw_ai (by decide) (by decide) (by decide) (by exact Nat.le_of_ble_eq_true rfl) (by exact Nat.le_of_ble_eq_true rfl) dk_Round_33 (fun q33 H hW => ?_)
  refine kr_putF (b := 4) (w1 := 440) (v := .ref q33) (ty := (.array .int)) (nm := "ways") (ds := "[I") (N := 5) hC hin hW rfl (by decide +kernel) (by decide) (by decide +kernel) (by decide +kernel) rfl rfl (by exact Nat.le_of_ble_eq_true rfl) dk_Round_35 (fun H locs hW => ?_)
  obtain ⟨T4, eT4⟩ : ∃ z, z = T3 ++ [(q33, .inl (cs.1, 2048, .inl fun _ => 0))] := ⟨_, rfl⟩
  have hW : Wn D cs A ((h0, .inr (5, [.ref q7, .ref q15, .int 0, .ref q24, .ref q33])) :: (T3 ++ [(q33, .inl (cs.1, 2048, .inl fun _ => 0))])) s H locs := hW
  rw [← eT4] at hW
  have hE : ((h0, .inr (5, [.ref q7, .ref q15, .int 0, .ref q24, .ref q33])) :: T4 : va_W) = cnL Lk_Round cs (fun k d i => bif Nat.beq k 51 then h0 else bif Nat.beq k 52 then gdA q7 i else bif Nat.beq k 53 then gdA q15 i else bif Nat.beq k 54 then gdA q24 i else bif Nat.beq k 55 then gdA q33 i else 0) sC := by
    subst eT1 eT2 eT3 eT4
    rfl
  refine W.widen (k := 4) (n := 2324) (by exact Nat.le_of_ble_eq_true rfl) (by exact Nat.le_of_ble_eq_true rfl) ?_
  exact W.vret hC.1 hC.2.1 hr (fun t ht hWm => ⟨⟨_, rfl, ⟨_, rfl, hE⟩, by rw [ht]; exact hW.1.1, va_K.moved hWm.alike hW.1.2.1.1, hW.1.2.2⟩, hW.2.1.F ht⟩) hW.2.1.2.2 dk_Round_38
theorem dk_Houses_0 : decode prog_6_method_1_code 0 = .ok (.aload_n 0, 1) := by decide +kernel
theorem dk_Houses_1 : decode prog_6_method_1_code 1 = .ok (.invokespecial 5, 3) := by decide +kernel
theorem dk_Houses_4 : decode prog_6_method_1_code 4 = .ok (.aload_n 0, 1) := by decide +kernel
theorem dk_Houses_5 : decode prog_6_method_1_code 5 = .ok (.iconst 2, 1) := by decide +kernel
theorem dk_Houses_6 : decode prog_6_method_1_code 6 = .ok (.bipush 25, 2) := by decide +kernel
theorem dk_Houses_8 : decode prog_6_method_1_code 8 = .ok (.multianewarray 11 2, 4) := by decide +kernel
theorem dk_Houses_12 : decode prog_6_method_1_code 12 = .ok (.putfield 13, 3) := by decide +kernel
theorem dk_Houses_15 : decode prog_6_method_1_code 15 = .ok (.aload_n 0, 1) := by decide +kernel
theorem dk_Houses_16 : decode prog_6_method_1_code 16 = .ok (.bipush 50, 2) := by decide +kernel
theorem dk_Houses_18 : decode prog_6_method_1_code 18 = .ok (.newarray .boolean, 2) := by decide +kernel
theorem dk_Houses_20 : decode prog_6_method_1_code 20 = .ok (.putfield 16, 3) := by decide +kernel
theorem dk_Houses_23 : decode prog_6_method_1_code 23 = .ok (.return_, 1) := by decide +kernel
def Lk_Houses : List Lb := (56, false, 0) :: ((([] : List Lb) ++ lbK 57 false) ++ lbK 58 false)
theorem k_Houses (l : Launch) (D : va_G) (cs : Cs) (h0 sz : Nat) : Kt l ⟨"BikeTown$Houses", "<init>", "()V"⟩ prog_6_method_1_code 1 [] D cs h0 sz (4, dfS 2 tyX4) 1 4 102 (fun w1 => ∃ a : Ad, a 56 false 0 = h0 ∧ w1 = cnL Lk_Houses cs a sC) := by
  refine Met.ofW (cc := prog_6_method_1_code) (maxL := 1) (ret := none) (by decide) rfl ?_
  intro p e s m args below meth c s₁ B hml hv
  obtain ⟨rfl, hsz, hP, hK, hD0⟩ := hv
  subst hsz
  have hlocks := B.notSynchronized
  have hr := B.returns
  have hin : meth.name = "<init>" := (name_of_methodNamed B.named B.method).1
  have hts := atoms_spec (ws := .code ⟨"BikeTown$Houses", "<init>", "()V"⟩ prog_6_method_1_code 1 none :: lw_g) B.pre
  have hC : Cw "BikeTown$Houses" prog_6_method_1_code 1 p s m (.ref h0 :: []).toArray c := ⟨B.exec, B.bytes, hml, findClass_of_methodNamed B.named, fun w hw => hts w (List.mem_cons_of_mem _ hw)⟩
  have hD := hD0.self (sz := s.heap.size)
  generalize hAe : va_A [(h0, .inr (4, dfS 2 tyX4))] s.heap.size = A at hD ⊢
  have hW : Wn D cs A ((h0, .inr (4, [.null, .null])) :: ([] : va_W)) s s.heap [] := ⟨⟨hP, hK, hD⟩, va_S.rf, fun q h => by rw [← hAe]; exact Or.inr h⟩
  have hl := lv_entry (.ref h0 :: []) (n := 1) (Nat.le_of_ble_eq_true rfl)
  rw [lg_entry_eq]
  generalize (lg_sl (.ref h0 :: []) ++ List.replicate (1 - (lg_sl (.ref h0 :: [])).length) Slot.unset).toArray = ls at hl ⊢
  have hl : lv_has ls 1 [(0, .ref h0)] := hl
  refine lv_aload_n hC.1 hC.2.1 dk_Houses_0 rfl (lv_at hl 0 rfl) ?_
  refine kr_super hC (w1 := 457) (by decide +kernel) hl.1 (by exact Nat.le_of_ble_eq_true rfl) (by exact Nat.le_of_ble_eq_true rfl) dk_Houses_1 ?_
  refine lv_aload_n hC.1 hC.2.1 dk_Houses_4 rfl (lv_at hl 0 rfl) ?_
  refine lv_iconst (v := 2) hC.1 hC.2.1 dk_Houses_5 (by decide) ?_
  refine lv_bipush (v := 25) hC.1 hC.2.1 dk_Houses_6 (by decide) ?_
  refine kr_grid hC hW (w1 := 458) (N := 2) (K := 25) (by decide +kernel) (by decide) (by decide) (by decide) (by decide) (by decide) (by decide) (by exact Nat.le_of_ble_eq_true rfl) (by exact Nat.le_of_ble_eq_true rfl) dk_Houses_8 (fun q8 H hW => ?_)
  refine kr_putF (b := 0) (w1 := 459) (v := .ref q8) (ty := (.array (.array .int))) (nm := "gain") (ds := "[[I") (N := 2) hC hin hW rfl (by decide +kernel) (by decide) (by decide +kernel) (by decide +kernel) rfl rfl (by exact Nat.le_of_ble_eq_true rfl) dk_Houses_12 (fun H locs hW => ?_)
  obtain ⟨T1, eT1⟩ : ∃ z, z = ([] : va_W) ++ grW cs q8 2 25 := ⟨_, rfl⟩
  have hW : Wn D cs A ((h0, .inr (4, [.ref q8, .null])) :: (([] : va_W) ++ grW cs q8 2 25)) s H locs := hW
  rw [← eT1] at hW
  refine lv_aload_n hC.1 hC.2.1 dk_Houses_15 rfl (lv_at hl 0 rfl) ?_
  refine lv_bipush (v := 50) hC.1 hC.2.1 dk_Houses_16 (by decide) ?_
  refine kr_newB hC hW (N := 50) mw_az (by decide) (by decide) (by decide) (by exact Nat.le_of_ble_eq_true rfl) (by exact Nat.le_of_ble_eq_true rfl) dk_Houses_18 (fun q18 H hW => ?_)
  refine kr_putF (b := 1) (w1 := 461) (v := .ref q18) (ty := (.array .boolean)) (nm := "seen") (ds := "[Z") (N := 2) hC hin hW rfl (by decide +kernel) (by decide) (by decide +kernel) (by decide +kernel) rfl rfl (by exact Nat.le_of_ble_eq_true rfl) dk_Houses_20 (fun H locs hW => ?_)
  obtain ⟨T2, eT2⟩ : ∃ z, z = T1 ++ [(q18, .inl (cs.2.1, 50, .inl fun _ => 0))] := ⟨_, rfl⟩
  have hW : Wn D cs A ((h0, .inr (4, [.ref q8, .ref q18])) :: (T1 ++ [(q18, .inl (cs.2.1, 50, .inl fun _ => 0))])) s H locs := hW
  rw [← eT2] at hW
  have hE : ((h0, .inr (4, [.ref q8, .ref q18])) :: T2 : va_W) = cnL Lk_Houses cs (fun k d i => bif Nat.beq k 56 then h0 else bif Nat.beq k 57 then gdA q8 i else bif Nat.beq k 58 then gdA q18 i else 0) sC := by
    subst eT1 eT2
    rfl
  refine W.widen (k := 4) (n := 102) (by exact Nat.le_of_ble_eq_true rfl) (by exact Nat.le_of_ble_eq_true rfl) ?_
  exact W.vret hC.1 hC.2.1 hr (fun t ht hWm => ⟨⟨_, rfl, ⟨_, rfl, hE⟩, by rw [ht]; exact hW.1.1, va_K.moved hWm.alike hW.1.2.1.1, hW.1.2.2⟩, hW.2.1.F ht⟩) hW.2.1.2.2 dk_Houses_23
theorem dk_Sites_0 : decode prog_9_method_1_code 0 = .ok (.aload_n 0, 1) := by decide +kernel
theorem dk_Sites_1 : decode prog_9_method_1_code 1 = .ok (.invokespecial 1, 3) := by decide +kernel
theorem dk_Sites_4 : decode prog_9_method_1_code 4 = .ok (.aload_n 0, 1) := by decide +kernel
theorem dk_Sites_5 : decode prog_9_method_1_code 5 = .ok (.bipush 12, 2) := by decide +kernel
theorem dk_Sites_7 : decode prog_9_method_1_code 7 = .ok (.newarray .int, 2) := by decide +kernel
theorem dk_Sites_9 : decode prog_9_method_1_code 9 = .ok (.putfield 9, 3) := by decide +kernel
theorem dk_Sites_12 : decode prog_9_method_1_code 12 = .ok (.aload_n 0, 1) := by decide +kernel
theorem dk_Sites_13 : decode prog_9_method_1_code 13 = .ok (.bipush 12, 2) := by decide +kernel
theorem dk_Sites_15 : decode prog_9_method_1_code 15 = .ok (.newarray .int, 2) := by decide +kernel
theorem dk_Sites_17 : decode prog_9_method_1_code 17 = .ok (.putfield 13, 3) := by decide +kernel
theorem dk_Sites_20 : decode prog_9_method_1_code 20 = .ok (.aload_n 0, 1) := by decide +kernel
theorem dk_Sites_21 : decode prog_9_method_1_code 21 = .ok (.bipush 40, 2) := by decide +kernel
theorem dk_Sites_23 : decode prog_9_method_1_code 23 = .ok (.newarray .int, 2) := by decide +kernel
theorem dk_Sites_25 : decode prog_9_method_1_code 25 = .ok (.putfield 16, 3) := by decide +kernel
theorem dk_Sites_28 : decode prog_9_method_1_code 28 = .ok (.aload_n 0, 1) := by decide +kernel
theorem dk_Sites_29 : decode prog_9_method_1_code 29 = .ok (.bipush 40, 2) := by decide +kernel
theorem dk_Sites_31 : decode prog_9_method_1_code 31 = .ok (.newarray .int, 2) := by decide +kernel
theorem dk_Sites_33 : decode prog_9_method_1_code 33 = .ok (.putfield 19, 3) := by decide +kernel
theorem dk_Sites_36 : decode prog_9_method_1_code 36 = .ok (.aload_n 0, 1) := by decide +kernel
theorem dk_Sites_37 : decode prog_9_method_1_code 37 = .ok (.bipush 40, 2) := by decide +kernel
theorem dk_Sites_39 : decode prog_9_method_1_code 39 = .ok (.newarray .int, 2) := by decide +kernel
theorem dk_Sites_41 : decode prog_9_method_1_code 41 = .ok (.putfield 22, 3) := by decide +kernel
theorem dk_Sites_44 : decode prog_9_method_1_code 44 = .ok (.aload_n 0, 1) := by decide +kernel
theorem dk_Sites_45 : decode prog_9_method_1_code 45 = .ok (.bipush 40, 2) := by decide +kernel
theorem dk_Sites_47 : decode prog_9_method_1_code 47 = .ok (.newarray .int, 2) := by decide +kernel
theorem dk_Sites_49 : decode prog_9_method_1_code 49 = .ok (.putfield 25, 3) := by decide +kernel
theorem dk_Sites_52 : decode prog_9_method_1_code 52 = .ok (.return_, 1) := by decide +kernel
def Lk_Sites : List Lb := (59, false, 0) :: ((((((([] : List Lb) ++ lbK 60 false) ++ lbK 61 false) ++ lbK 62 false) ++ lbK 63 false) ++ lbK 64 false) ++ lbK 65 false)
theorem k_Sites (l : Launch) (D : va_G) (cs : Cs) (h0 sz : Nat) : Kt l ⟨"BikeTown$Sites", "<init>", "()V"⟩ prog_9_method_1_code 1 [] D cs h0 sz (7, dfS 8 tyX7) 1 6 184 (fun w1 => ∃ a : Ad, a 59 false 0 = h0 ∧ w1 = cnL Lk_Sites cs a sC) := by
  refine Met.ofW (cc := prog_9_method_1_code) (maxL := 1) (ret := none) (by decide) rfl ?_
  intro p e s m args below meth c s₁ B hml hv
  obtain ⟨rfl, hsz, hP, hK, hD0⟩ := hv
  subst hsz
  have hlocks := B.notSynchronized
  have hr := B.returns
  have hin : meth.name = "<init>" := (name_of_methodNamed B.named B.method).1
  have hts := atoms_spec (ws := .code ⟨"BikeTown$Sites", "<init>", "()V"⟩ prog_9_method_1_code 1 none :: lw_g) B.pre
  have hC : Cw "BikeTown$Sites" prog_9_method_1_code 1 p s m (.ref h0 :: []).toArray c := ⟨B.exec, B.bytes, hml, findClass_of_methodNamed B.named, fun w hw => hts w (List.mem_cons_of_mem _ hw)⟩
  have hD := hD0.self (sz := s.heap.size)
  generalize hAe : va_A [(h0, .inr (7, dfS 8 tyX7))] s.heap.size = A at hD ⊢
  have hW : Wn D cs A ((h0, .inr (7, [.int 0, .int 0, .null, .null, .null, .null, .null, .null])) :: ([] : va_W)) s s.heap [] := ⟨⟨hP, hK, hD⟩, va_S.rf, fun q h => by rw [← hAe]; exact Or.inr h⟩
  have hl := lv_entry (.ref h0 :: []) (n := 1) (Nat.le_of_ble_eq_true rfl)
  rw [lg_entry_eq]
  generalize (lg_sl (.ref h0 :: []) ++ List.replicate (1 - (lg_sl (.ref h0 :: [])).length) Slot.unset).toArray = ls at hl ⊢
  have hl : lv_has ls 1 [(0, .ref h0)] := hl
  refine lv_aload_n hC.1 hC.2.1 dk_Sites_0 rfl (lv_at hl 0 rfl) ?_
  refine kr_super hC (w1 := 472) (by decide +kernel) hl.1 (by exact Nat.le_of_ble_eq_true rfl) (by exact Nat.le_of_ble_eq_true rfl) dk_Sites_1 ?_
  refine lv_aload_n hC.1 hC.2.1 dk_Sites_4 rfl (lv_at hl 0 rfl) ?_
  refine lv_bipush (v := 12) hC.1 hC.2.1 dk_Sites_5 (by decide) ?_
  refine kr_newI hC hW (N := 12) mw_ai (by decide) (by decide) (by decide) (by exact Nat.le_of_ble_eq_true rfl) (by exact Nat.le_of_ble_eq_true rfl) dk_Sites_7 (fun q7 H hW => ?_)
  refine kr_putF (b := 2) (w1 := 477) (v := .ref q7) (ty := (.array .int)) (nm := "siteX") (ds := "[I") (N := 8) hC hin hW rfl (by decide +kernel) (by decide) (by decide +kernel) (by decide +kernel) rfl rfl (by exact Nat.le_of_ble_eq_true rfl) dk_Sites_9 (fun H locs hW => ?_)
  obtain ⟨T1, eT1⟩ : ∃ z, z = ([] : va_W) ++ [(q7, .inl (cs.1, 12, .inl fun _ => 0))] := ⟨_, rfl⟩
  have hW : Wn D cs A ((h0, .inr (7, [.int 0, .int 0, .ref q7, .null, .null, .null, .null, .null])) :: (([] : va_W) ++ [(q7, .inl (cs.1, 12, .inl fun _ => 0))])) s H locs := hW
  rw [← eT1] at hW
  refine lv_aload_n hC.1 hC.2.1 dk_Sites_12 rfl (lv_at hl 0 rfl) ?_
  refine lv_bipush (v := 12) hC.1 hC.2.1 dk_Sites_13 (by decide) ?_
  refine kr_newI hC hW (N := 12) mw_ai (by decide) (by decide) (by decide) (by exact Nat.le_of_ble_eq_true rfl) (by exact Nat.le_of_ble_eq_true rfl) dk_Sites_15 (fun q15 H hW => ?_)
  refine kr_putF (b := 3) (w1 := 478) (v := .ref q15) (ty := (.array .int)) (nm := "siteY") (ds := "[I") (N := 8) hC hin hW rfl (by decide +kernel) (by decide) (by decide +kernel) (by decide +kernel) rfl rfl (by exact Nat.le_of_ble_eq_true rfl) dk_Sites_17 (fun H locs hW => ?_)
  obtain ⟨T2, eT2⟩ : ∃ z, z = T1 ++ [(q15, .inl (cs.1, 12, .inl fun _ => 0))] := ⟨_, rfl⟩
  have hW : Wn D cs A ((h0, .inr (7, [.int 0, .int 0, .ref q7, .ref q15, .null, .null, .null, .null])) :: (T1 ++ [(q15, .inl (cs.1, 12, .inl fun _ => 0))])) s H locs := hW
  rw [← eT2] at hW
  refine lv_aload_n hC.1 hC.2.1 dk_Sites_20 rfl (lv_at hl 0 rfl) ?_
  refine lv_bipush (v := 40) hC.1 hC.2.1 dk_Sites_21 (by decide) ?_
  refine kr_newI hC hW (N := 40) mw_ai (by decide) (by decide) (by decide) (by exact Nat.le_of_ble_eq_true rfl) (by exact Nat.le_of_ble_eq_true rfl) dk_Sites_23 (fun q23 H hW => ?_)
  refine kr_putF (b := 4) (w1 := 479) (v := .ref q23) (ty := (.array .int)) (nm := "wishX") (ds := "[I") (N := 8) hC hin hW rfl (by decide +kernel) (by decide) (by decide +kernel) (by decide +kernel) rfl rfl (by exact Nat.le_of_ble_eq_true rfl) dk_Sites_25 (fun H locs hW => ?_)
  obtain ⟨T3, eT3⟩ : ∃ z, z = T2 ++ [(q23, .inl (cs.1, 40, .inl fun _ => 0))] := ⟨_, rfl⟩
  have hW : Wn D cs A ((h0, .inr (7, [.int 0, .int 0, .ref q7, .ref q15, .ref q23, .null, .null, .null])) :: (T2 ++ [(q23, .inl (cs.1, 40, .inl fun _ => 0))])) s H locs := hW
  rw [← eT3] at hW
  refine lv_aload_n hC.1 hC.2.1 dk_Sites_28 rfl (lv_at hl 0 rfl) ?_
  refine lv_bipush (v := 40) hC.1 hC.2.1 dk_Sites_29 (by decide) ?_
  refine kr_newI hC hW (N := 40) mw_ai (by decide) (by decide) (by decide) (by exact Nat.le_of_ble_eq_true rfl) (by exact Nat.le_of_ble_eq_true rfl) dk_Sites_31 (fun q31 H hW => ?_)
  refine kr_putF (b := 5) (w1 := 480) (v := .ref q31) (ty := (.array .int)) (nm := "wishY") (ds := "[I") (N := 8) hC hin hW rfl (by decide +kernel) (by decide) (by decide +kernel) (by decide +kernel) rfl rfl (by exact Nat.le_of_ble_eq_true rfl) dk_Sites_33 (fun H locs hW => ?_)
  obtain ⟨T4, eT4⟩ : ∃ z, z = T3 ++ [(q31, .inl (cs.1, 40, .inl fun _ => 0))] := ⟨_, rfl⟩
  have hW : Wn D cs A ((h0, .inr (7, [.int 0, .int 0, .ref q7, .ref q15, .ref q23, .ref q31, .null, .null])) :: (T3 ++ [(q31, .inl (cs.1, 40, .inl fun _ => 0))])) s H locs := hW
  rw [← eT4] at hW
  refine lv_aload_n hC.1 hC.2.1 dk_Sites_36 rfl (lv_at hl 0 rfl) ?_
  refine lv_bipush (v := 40) hC.1 hC.2.1 dk_Sites_37 (by decide) ?_
  refine kr_newI hC hW (N := 40) mw_ai (by decide) (by decide) (by decide) (by exact Nat.le_of_ble_eq_true rfl) (by exact Nat.le_of_ble_eq_true rfl) dk_Sites_39 (fun q39 H hW => ?_)
  refine kr_putF (b := 6) (w1 := 481) (v := .ref q39) (ty := (.array .int)) (nm := "many") (ds := "[I") (N := 8) hC hin hW rfl (by decide +kernel) (by decide) (by decide +kernel) (by decide +kernel) rfl rfl (by exact Nat.le_of_ble_eq_true rfl) dk_Sites_41 (fun H locs hW => ?_)
  obtain ⟨T5, eT5⟩ : ∃ z, z = T4 ++ [(q39, .inl (cs.1, 40, .inl fun _ => 0))] := ⟨_, rfl⟩
  have hW : Wn D cs A ((h0, .inr (7, [.int 0, .int 0, .ref q7, .ref q15, .ref q23, .ref q31, .ref q39, .null])) :: (T4 ++ [(q39, .inl (cs.1, 40, .inl fun _ => 0))])) s H locs := hW
  rw [← eT5] at hW
  refine lv_aload_n hC.1 hC.2.1 dk_Sites_44 rfl (lv_at hl 0 rfl) ?_
  refine lv_bipush (v := 40) hC.1 hC.2.1 dk_Sites_45 (by decide) ?_
  refine kr_newI hC hW (N := 40) mw_ai (by decide) (by decide) (by decide) (by exact Nat.le_of_ble_eq_true rfl) (by exact Nat.le_of_ble_eq_true rfl) dk_Sites_47 (fun q47 H hW => ?_)
  refine kr_putF (b := 7) (w1 := 482) (v := .ref q47) (ty := (.array .int)) (nm := "toPost") (ds := "[I") (N := 8) hC hin hW rfl (by decide +kernel) (by decide) (by decide +kernel) (by decide +kernel) rfl rfl (by exact Nat.le_of_ble_eq_true rfl) dk_Sites_49 (fun H locs hW => ?_)
  obtain ⟨T6, eT6⟩ : ∃ z, z = T5 ++ [(q47, .inl (cs.1, 40, .inl fun _ => 0))] := ⟨_, rfl⟩
  have hW : Wn D cs A ((h0, .inr (7, [.int 0, .int 0, .ref q7, .ref q15, .ref q23, .ref q31, .ref q39, .ref q47])) :: (T5 ++ [(q47, .inl (cs.1, 40, .inl fun _ => 0))])) s H locs := hW
  rw [← eT6] at hW
  have hE : ((h0, .inr (7, [.int 0, .int 0, .ref q7, .ref q15, .ref q23, .ref q31, .ref q39, .ref q47])) :: T6 : va_W) = cnL Lk_Sites cs (fun k d i => bif Nat.beq k 59 then h0 else bif Nat.beq k 60 then gdA q7 i else bif Nat.beq k 61 then gdA q15 i else bif Nat.beq k 62 then gdA q23 i else bif Nat.beq k 63 then gdA q31 i else bif Nat.beq k 64 then gdA q39 i else bif Nat.beq k 65 then gdA q47 i else 0) sC := by
    subst eT1 eT2 eT3 eT4 eT5 eT6
    rfl
  refine W.widen (k := 6) (n := 184) (by exact Nat.le_of_ble_eq_true rfl) (by exact Nat.le_of_ble_eq_true rfl) ?_
  exact W.vret hC.1 hC.2.1 hr (fun t ht hWm => ⟨⟨_, rfl, ⟨_, rfl, hE⟩, by rw [ht]; exact hW.1.1, va_K.moved hWm.alike hW.1.2.1.1, hW.1.2.2⟩, hW.2.1.F ht⟩) hW.2.1.2.2 dk_Sites_52
theorem dk_Trials_0 : decode prog_11_method_1_code 0 = .ok (.aload_n 0, 1) := by decide +kernel
theorem dk_Trials_1 : decode prog_11_method_1_code 1 = .ok (.invokespecial 1, 3) := by decide +kernel
theorem dk_Trials_4 : decode prog_11_method_1_code 4 = .ok (.aload_n 0, 1) := by decide +kernel
theorem dk_Trials_5 : decode prog_11_method_1_code 5 = .ok (.bipush 60, 2) := by decide +kernel
theorem dk_Trials_7 : decode prog_11_method_1_code 7 = .ok (.newarray .int, 2) := by decide +kernel
theorem dk_Trials_9 : decode prog_11_method_1_code 9 = .ok (.putfield 9, 3) := by decide +kernel
theorem dk_Trials_12 : decode prog_11_method_1_code 12 = .ok (.aload_n 0, 1) := by decide +kernel
theorem dk_Trials_13 : decode prog_11_method_1_code 13 = .ok (.bipush 60, 2) := by decide +kernel
theorem dk_Trials_15 : decode prog_11_method_1_code 15 = .ok (.newarray .boolean, 2) := by decide +kernel
theorem dk_Trials_17 : decode prog_11_method_1_code 17 = .ok (.putfield 13, 3) := by decide +kernel
theorem dk_Trials_20 : decode prog_11_method_1_code 20 = .ok (.return_, 1) := by decide +kernel
def Lk_Trials : List Lb := (66, false, 0) :: ((([] : List Lb) ++ lbK 67 false) ++ lbK 68 false)
theorem k_Trials (l : Launch) (D : va_G) (cs : Cs) (h0 sz : Nat) : Kt l ⟨"BikeTown$Trials", "<init>", "()V"⟩ prog_11_method_1_code 1 [] D cs h0 sz (9, dfS 3 tyX9) 1 2 120 (fun w1 => ∃ a : Ad, a 66 false 0 = h0 ∧ w1 = cnL Lk_Trials cs a sC) := by
  refine Met.ofW (cc := prog_11_method_1_code) (maxL := 1) (ret := none) (by decide) rfl ?_
  intro p e s m args below meth c s₁ B hml hv
  obtain ⟨rfl, hsz, hP, hK, hD0⟩ := hv
  subst hsz
  have hlocks := B.notSynchronized
  have hr := B.returns
  have hin : meth.name = "<init>" := (name_of_methodNamed B.named B.method).1
  have hts := atoms_spec (ws := .code ⟨"BikeTown$Trials", "<init>", "()V"⟩ prog_11_method_1_code 1 none :: lw_g) B.pre
  have hC : Cw "BikeTown$Trials" prog_11_method_1_code 1 p s m (.ref h0 :: []).toArray c := ⟨B.exec, B.bytes, hml, findClass_of_methodNamed B.named, fun w hw => hts w (List.mem_cons_of_mem _ hw)⟩
  have hD := hD0.self (sz := s.heap.size)
  generalize hAe : va_A [(h0, .inr (9, dfS 3 tyX9))] s.heap.size = A at hD ⊢
  have hW : Wn D cs A ((h0, .inr (9, [.int 0, .null, .null])) :: ([] : va_W)) s s.heap [] := ⟨⟨hP, hK, hD⟩, va_S.rf, fun q h => by rw [← hAe]; exact Or.inr h⟩
  have hl := lv_entry (.ref h0 :: []) (n := 1) (Nat.le_of_ble_eq_true rfl)
  rw [lg_entry_eq]
  generalize (lg_sl (.ref h0 :: []) ++ List.replicate (1 - (lg_sl (.ref h0 :: [])).length) Slot.unset).toArray = ls at hl ⊢
  have hl : lv_has ls 1 [(0, .ref h0)] := hl
  refine lv_aload_n hC.1 hC.2.1 dk_Trials_0 rfl (lv_at hl 0 rfl) ?_
  refine kr_super hC (w1 := 505) (by decide +kernel) hl.1 (by exact Nat.le_of_ble_eq_true rfl) (by exact Nat.le_of_ble_eq_true rfl) dk_Trials_1 ?_
  refine lv_aload_n hC.1 hC.2.1 dk_Trials_4 rfl (lv_at hl 0 rfl) ?_
  refine lv_bipush (v := 60) hC.1 hC.2.1 dk_Trials_5 (by decide) ?_
  refine kr_newI hC hW (N := 60) mw_ai (by decide) (by decide) (by decide) (by exact Nat.le_of_ble_eq_true rfl) (by exact Nat.le_of_ble_eq_true rfl) dk_Trials_7 (fun q7 H hW => ?_)
  refine kr_putF (b := 1) (w1 := 508) (v := .ref q7) (ty := (.array .int)) (nm := "scores") (ds := "[I") (N := 3) hC hin hW rfl (by decide +kernel) (by decide) (by decide +kernel) (by decide +kernel) rfl rfl (by exact Nat.le_of_ble_eq_true rfl) dk_Trials_9 (fun H locs hW => ?_)
  obtain ⟨T1, eT1⟩ : ∃ z, z = ([] : va_W) ++ [(q7, .inl (cs.1, 60, .inl fun _ => 0))] := ⟨_, rfl⟩
  have hW : Wn D cs A ((h0, .inr (9, [.int 0, .ref q7, .null])) :: (([] : va_W) ++ [(q7, .inl (cs.1, 60, .inl fun _ => 0))])) s H locs := hW
  rw [← eT1] at hW
  refine lv_aload_n hC.1 hC.2.1 dk_Trials_12 rfl (lv_at hl 0 rfl) ?_
  refine lv_bipush (v := 60) hC.1 hC.2.1 dk_Trials_13 (by decide) ?_
  refine kr_newB hC hW (N := 60) mw_az (by decide) (by decide) (by decide) (by exact Nat.le_of_ble_eq_true rfl) (by exact Nat.le_of_ble_eq_true rfl) dk_Trials_15 (fun q15 H hW => ?_)
  refine kr_putF (b := 2) (w1 := 509) (v := .ref q15) (ty := (.array .boolean)) (nm := "isFaulty") (ds := "[Z") (N := 3) hC hin hW rfl (by decide +kernel) (by decide) (by decide +kernel) (by decide +kernel) rfl rfl (by exact Nat.le_of_ble_eq_true rfl) dk_Trials_17 (fun H locs hW => ?_)
  obtain ⟨T2, eT2⟩ : ∃ z, z = T1 ++ [(q15, .inl (cs.2.1, 60, .inl fun _ => 0))] := ⟨_, rfl⟩
  have hW : Wn D cs A ((h0, .inr (9, [.int 0, .ref q7, .ref q15])) :: (T1 ++ [(q15, .inl (cs.2.1, 60, .inl fun _ => 0))])) s H locs := hW
  rw [← eT2] at hW
  have hE : ((h0, .inr (9, [.int 0, .ref q7, .ref q15])) :: T2 : va_W) = cnL Lk_Trials cs (fun k d i => bif Nat.beq k 66 then h0 else bif Nat.beq k 67 then gdA q7 i else bif Nat.beq k 68 then gdA q15 i else 0) sC := by
    subst eT1 eT2
    rfl
  refine W.widen (k := 2) (n := 120) (by exact Nat.le_of_ble_eq_true rfl) (by exact Nat.le_of_ble_eq_true rfl) ?_
  exact W.vret hC.1 hC.2.1 hr (fun t ht hWm => ⟨⟨_, rfl, ⟨_, rfl, hE⟩, by rw [ht]; exact hW.1.1, va_K.moved hWm.alike hW.1.2.1.1, hW.1.2.2⟩, hW.2.1.F ht⟩) hW.2.1.2.2 dk_Trials_20
theorem dk_Diary_0_0 : decode prog_4_method_1_code 0 = .ok (.aload_n 0, 1) := by decide +kernel
theorem dk_Diary_0_1 : decode prog_4_method_1_code 1 = .ok (.invokespecial 3, 3) := by decide +kernel
theorem dk_Diary_0_4 : decode prog_4_method_1_code 4 = .ok (.aload_n 0, 1) := by decide +kernel
theorem dk_Diary_0_5 : decode prog_4_method_1_code 5 = .ok (.bipush 12, 2) := by decide +kernel
theorem dk_Diary_0_7 : decode prog_4_method_1_code 7 = .ok (.bipush 24, 2) := by decide +kernel
theorem dk_Diary_0_9 : decode prog_4_method_1_code 9 = .ok (.multianewarray 9 2, 4) := by decide +kernel
theorem dk_Diary_0_13 : decode prog_4_method_1_code 13 = .ok (.putfield 11, 3) := by decide +kernel
theorem dk_Diary_0_16 : decode prog_4_method_1_code 16 = .ok (.aload_n 0, 1) := by decide +kernel
theorem dk_Diary_0_17 : decode prog_4_method_1_code 17 = .ok (.bipush 12, 2) := by decide +kernel
theorem dk_Diary_0_19 : decode prog_4_method_1_code 19 = .ok (.bipush 24, 2) := by decide +kernel
theorem dk_Diary_0_21 : decode prog_4_method_1_code 21 = .ok (.multianewarray 9 2, 4) := by decide +kernel
theorem dk_Diary_0_25 : decode prog_4_method_1_code 25 = .ok (.putfield 16, 3) := by decide +kernel
theorem dk_Diary_0_28 : decode prog_4_method_1_code 28 = .ok (.aload_n 0, 1) := by decide +kernel
theorem dk_Diary_0_29 : decode prog_4_method_1_code 29 = .ok (.bipush 12, 2) := by decide +kernel
theorem dk_Diary_0_31 : decode prog_4_method_1_code 31 = .ok (.bipush 24, 2) := by decide +kernel
theorem dk_Diary_0_33 : decode prog_4_method_1_code 33 = .ok (.multianewarray 9 2, 4) := by decide +kernel
theorem dk_Diary_0_37 : decode prog_4_method_1_code 37 = .ok (.putfield 19, 3) := by decide +kernel
theorem dk_Diary_0_40 : decode prog_4_method_1_code 40 = .ok (.aload_n 0, 1) := by decide +kernel
theorem dk_Diary_0_41 : decode prog_4_method_1_code 41 = .ok (.bipush 12, 2) := by decide +kernel
theorem dk_Diary_0_43 : decode prog_4_method_1_code 43 = .ok (.bipush 24, 2) := by decide +kernel
theorem dk_Diary_0_45 : decode prog_4_method_1_code 45 = .ok (.multianewarray 9 2, 4) := by decide +kernel
theorem dk_Diary_0_49 : decode prog_4_method_1_code 49 = .ok (.putfield 22, 3) := by decide +kernel
theorem dk_Diary_0_52 : decode prog_4_method_1_code 52 = .ok (.aload_n 0, 1) := by decide +kernel
theorem dk_Diary_0_53 : decode prog_4_method_1_code 53 = .ok (.bipush 12, 2) := by decide +kernel
theorem dk_Diary_0_55 : decode prog_4_method_1_code 55 = .ok (.newarray .int, 2) := by decide +kernel
theorem dk_Diary_0_57 : decode prog_4_method_1_code 57 = .ok (.putfield 25, 3) := by decide +kernel
theorem dk_Diary_0_60 : decode prog_4_method_1_code 60 = .ok (.iconst 0, 1) := by decide +kernel
theorem dk_Diary_0_61 : decode prog_4_method_1_code 61 = .ok (.iload_n 1, 1) := by decide +kernel
theorem dk_Diary_0_62 : decode prog_4_method_1_code 62 = .ok (.invokestatic 29, 3) := by decide +kernel
theorem dk_Diary_0_65 : decode prog_4_method_1_code 65 = .ok (.istore_n 2, 1) := by decide +kernel
theorem dk_Diary_0_66 : decode prog_4_method_1_code 66 = .ok (.aload_n 0, 1) := by decide +kernel
theorem dk_Diary_0_67 : decode prog_4_method_1_code 67 = .ok (.iload_n 2, 1) := by decide +kernel
theorem dk_Diary_0_68 : decode prog_4_method_1_code 68 = .ok (.putfield 35, 3) := by decide +kernel
theorem dk_Diary_0_71 : decode prog_4_method_1_code 71 = .ok (.aload_n 0, 1) := by decide +kernel
theorem dk_Diary_0_72 : decode prog_4_method_1_code 72 = .ok (.iconst 5, 1) := by decide +kernel
theorem dk_Diary_0_73 : decode prog_4_method_1_code 73 = .ok (.iload_n 2, 1) := by decide +kernel
theorem dk_Diary_0_74 : decode prog_4_method_1_code 74 = .ok (.multianewarray 9 2, 4) := by decide +kernel
theorem dk_Diary_0_78 : decode prog_4_method_1_code 78 = .ok (.putfield 39, 3) := by decide +kernel
theorem dk_Diary_0_81 : decode prog_4_method_1_code 81 = .ok (.return_, 1) := by decide +kernel
def Lk_Diary_0 : List Lb := (37, false, 0) :: ((((((([] : List Lb) ++ lbK 39 false) ++ lbK 40 false) ++ lbK 41 false) ++ lbK 42 false) ++ lbK 43 false) ++ lbK 38 false)
theorem k_Diary_0 (l : Launch) (D : va_G) (cs : Cs) (h0 sz : Nat) : Kt l ⟨"BikeTown$Diary", "<init>", "(I)V"⟩ prog_4_method_1_code 3 [.int 4000] D cs h0 sz (2, dfS 9 tyX2) 1 59 21217 (fun w1 => ∃ a : Ad, a 37 false 0 = h0 ∧ w1 = cnL Lk_Diary_0 cs a sC) := by
  refine Met.ofW (cc := prog_4_method_1_code) (maxL := 3) (ret := none) (by decide) rfl ?_
  intro p e s m args below meth c s₁ B hml hv
  obtain ⟨rfl, hsz, hP, hK, hD0⟩ := hv
  subst hsz
  have hlocks := B.notSynchronized
  have hr := B.returns
  have hin : meth.name = "<init>" := (name_of_methodNamed B.named B.method).1
  have hts := atoms_spec (ws := .code ⟨"BikeTown$Diary", "<init>", "(I)V"⟩ prog_4_method_1_code 3 none :: lw_g) B.pre
  have hC : Cw "BikeTown$Diary" prog_4_method_1_code 3 p s m (.ref h0 :: [.int 4000]).toArray c := ⟨B.exec, B.bytes, hml, findClass_of_methodNamed B.named, fun w hw => hts w (List.mem_cons_of_mem _ hw)⟩
  have hD := hD0.self (sz := s.heap.size)
  generalize hAe : va_A [(h0, .inr (2, dfS 9 tyX2))] s.heap.size = A at hD ⊢
  have hW : Wn D cs A ((h0, .inr (2, [.int 0, .int 0, .int 0, .null, .null, .null, .null, .null, .null])) :: ([] : va_W)) s s.heap [] := ⟨⟨hP, hK, hD⟩, va_S.rf, fun q h => by rw [← hAe]; exact Or.inr h⟩
  have hl := lv_entry (.ref h0 :: [.int 4000]) (n := 3) (Nat.le_of_ble_eq_true rfl)
  rw [lg_entry_eq]
  generalize (lg_sl (.ref h0 :: [.int 4000]) ++ List.replicate (3 - (lg_sl (.ref h0 :: [.int 4000])).length) Slot.unset).toArray = ls at hl ⊢
  have hl : lv_has ls 3 [(0, .ref h0), (1, .int 4000)] := hl
  refine lv_aload_n hC.1 hC.2.1 dk_Diary_0_0 rfl (lv_at hl 0 rfl) ?_
  refine kr_super hC (w1 := 311) (by decide +kernel) hl.1 (by exact Nat.le_of_ble_eq_true rfl) (by exact Nat.le_of_ble_eq_true rfl) dk_Diary_0_1 ?_
  refine lv_aload_n hC.1 hC.2.1 dk_Diary_0_4 rfl (lv_at hl 0 rfl) ?_
  refine lv_bipush (v := 12) hC.1 hC.2.1 dk_Diary_0_5 (by decide) ?_
  refine lv_bipush (v := 24) hC.1 hC.2.1 dk_Diary_0_7 (by decide) ?_
  refine kr_grid hC hW (w1 := 312) (N := 12) (K := 24) (by decide +kernel) (by decide) (by decide) (by decide) (by decide) (by decide) (by decide) (by exact Nat.le_of_ble_eq_true rfl) (by exact Nat.le_of_ble_eq_true rfl) dk_Diary_0_9 (fun q9 H hW => ?_)
  refine kr_putF (b := 4) (w1 := 323) (v := .ref q9) (ty := (.array (.array .int))) (nm := "taken") (ds := "[[I") (N := 9) hC hin hW rfl (by decide +kernel) (by decide) (by decide +kernel) (by decide +kernel) rfl rfl (by exact Nat.le_of_ble_eq_true rfl) dk_Diary_0_13 (fun H locs hW => ?_)
  obtain ⟨T1, eT1⟩ : ∃ z, z = ([] : va_W) ++ grW cs q9 12 24 := ⟨_, rfl⟩
  have hW : Wn D cs A ((h0, .inr (2, [.int 0, .int 0, .int 0, .null, .ref q9, .null, .null, .null, .null])) :: (([] : va_W) ++ grW cs q9 12 24)) s H locs := hW
  rw [← eT1] at hW
  refine lv_aload_n hC.1 hC.2.1 dk_Diary_0_16 rfl (lv_at hl 0 rfl) ?_
  refine lv_bipush (v := 12) hC.1 hC.2.1 dk_Diary_0_17 (by decide) ?_
  refine lv_bipush (v := 24) hC.1 hC.2.1 dk_Diary_0_19 (by decide) ?_
  refine kr_grid hC hW (w1 := 312) (N := 12) (K := 24) (by decide +kernel) (by decide) (by decide) (by decide) (by decide) (by decide) (by decide) (by exact Nat.le_of_ble_eq_true rfl) (by exact Nat.le_of_ble_eq_true rfl) dk_Diary_0_21 (fun q21 H hW => ?_)
  refine kr_putF (b := 5) (w1 := 327) (v := .ref q21) (ty := (.array (.array .int))) (nm := "lost") (ds := "[[I") (N := 9) hC hin hW rfl (by decide +kernel) (by decide) (by decide +kernel) (by decide +kernel) rfl rfl (by exact Nat.le_of_ble_eq_true rfl) dk_Diary_0_25 (fun H locs hW => ?_)
  obtain ⟨T2, eT2⟩ : ∃ z, z = T1 ++ grW cs q21 12 24 := ⟨_, rfl⟩
  have hW : Wn D cs A ((h0, .inr (2, [.int 0, .int 0, .int 0, .null, .ref q9, .ref q21, .null, .null, .null])) :: (T1 ++ grW cs q21 12 24)) s H locs := hW
  rw [← eT2] at hW
  refine lv_aload_n hC.1 hC.2.1 dk_Diary_0_28 rfl (lv_at hl 0 rfl) ?_
  refine lv_bipush (v := 12) hC.1 hC.2.1 dk_Diary_0_29 (by decide) ?_
  refine lv_bipush (v := 24) hC.1 hC.2.1 dk_Diary_0_31 (by decide) ?_
  refine kr_grid hC hW (w1 := 312) (N := 12) (K := 24) (by decide +kernel) (by decide) (by decide) (by decide) (by decide) (by decide) (by decide) (by exact Nat.le_of_ble_eq_true rfl) (by exact Nat.le_of_ble_eq_true rfl) dk_Diary_0_33 (fun q33 H hW => ?_)
  refine kr_putF (b := 6) (w1 := 330) (v := .ref q33) (ty := (.array (.array .int))) (nm := "empty") (ds := "[[I") (N := 9) hC hin hW rfl (by decide +kernel) (by decide) (by decide +kernel) (by decide +kernel) rfl rfl (by exact Nat.le_of_ble_eq_true rfl) dk_Diary_0_37 (fun H locs hW => ?_)
  obtain ⟨T3, eT3⟩ : ∃ z, z = T2 ++ grW cs q33 12 24 := ⟨_, rfl⟩
  have hW : Wn D cs A ((h0, .inr (2, [.int 0, .int 0, .int 0, .null, .ref q9, .ref q21, .ref q33, .null, .null])) :: (T2 ++ grW cs q33 12 24)) s H locs := hW
  rw [← eT3] at hW
  refine lv_aload_n hC.1 hC.2.1 dk_Diary_0_40 rfl (lv_at hl 0 rfl) ?_
  refine lv_bipush (v := 12) hC.1 hC.2.1 dk_Diary_0_41 (by decide) ?_
  refine lv_bipush (v := 24) hC.1 hC.2.1 dk_Diary_0_43 (by decide) ?_
  refine kr_grid hC hW (w1 := 312) (N := 12) (K := 24) (by decide +kernel) (by decide) (by decide) (by decide) (by decide) (by decide) (by decide) (by exact Nat.le_of_ble_eq_true rfl) (by exact Nat.le_of_ble_eq_true rfl) dk_Diary_0_45 (fun q45 H hW => ?_)
  refine kr_putF (b := 7) (w1 := 333) (v := .ref q45) (ty := (.array (.array .int))) (nm := "busiest") (ds := "[[I") (N := 9) hC hin hW rfl (by decide +kernel) (by decide) (by decide +kernel) (by decide +kernel) rfl rfl (by exact Nat.le_of_ble_eq_true rfl) dk_Diary_0_49 (fun H locs hW => ?_)
  obtain ⟨T4, eT4⟩ : ∃ z, z = T3 ++ grW cs q45 12 24 := ⟨_, rfl⟩
  have hW : Wn D cs A ((h0, .inr (2, [.int 0, .int 0, .int 0, .null, .ref q9, .ref q21, .ref q33, .ref q45, .null])) :: (T3 ++ grW cs q45 12 24)) s H locs := hW
  rw [← eT4] at hW
  refine lv_aload_n hC.1 hC.2.1 dk_Diary_0_52 rfl (lv_at hl 0 rfl) ?_
  refine lv_bipush (v := 12) hC.1 hC.2.1 dk_Diary_0_53 (by decide) ?_
  refine kr_newI hC hW (N := 12) mw_ai (by decide) (by decide) (by decide) (by exact Nat.le_of_ble_eq_true rfl) (by exact Nat.le_of_ble_eq_true rfl) dk_Diary_0_55 (fun q55 H hW => ?_)
  refine kr_putF (b := 8) (w1 := 335) (v := .ref q55) (ty := (.array .int)) (nm := "takenNow") (ds := "[I") (N := 9) hC hin hW rfl (by decide +kernel) (by decide) (by decide +kernel) (by decide +kernel) rfl rfl (by exact Nat.le_of_ble_eq_true rfl) dk_Diary_0_57 (fun H locs hW => ?_)
  obtain ⟨T5, eT5⟩ : ∃ z, z = T4 ++ [(q55, .inl (cs.1, 12, .inl fun _ => 0))] := ⟨_, rfl⟩
  have hW : Wn D cs A ((h0, .inr (2, [.int 0, .int 0, .int 0, .null, .ref q9, .ref q21, .ref q33, .ref q45, .ref q55])) :: (T4 ++ [(q55, .inl (cs.1, 12, .inl fun _ => 0))])) s H locs := hW
  rw [← eT5] at hW
  refine lv_iconst (v := 0) hC.1 hC.2.1 dk_Diary_0_60 (by decide) ?_
  refine lv_iload_n hC.1 hC.2.1 dk_Diary_0_61 rfl (lv_at hl 1 rfl) ?_
  refine va_mmax hC.1 hC.2.1 (hC.2.2.1.trans hl.1.symm) hC.2.2.2.1 (hts_at hC.2.2.2.2 (n := 313) (by decide +kernel)) (hts_at hC.2.2.2.2 mw_max.1) (hts_at hC.2.2.2.2 mw_max.2.1) (hts_at hC.2.2.2.2 mw_max.2.2) (by exact Nat.le_of_ble_eq_true rfl) (by exact Nat.le_of_ble_eq_true rfl) (by exact Nat.le_of_ble_eq_true rfl) (by exact Nat.le_of_ble_eq_true rfl) dk_Diary_0_62 ?_
  rw [show (if (0 : Int32) < 4000 then (4000 : Int32) else 0) = 4000 by decide]
  refine lv_istore_n hC.1 hC.2.1 dk_Diary_0_65 rfl hl (by decide) rfl (fun ls hl => ?_)
  have hl : lv_has ls 3 [(2, .int 4000), (0, .ref h0), (1, .int 4000)] := hl
  refine lv_aload_n hC.1 hC.2.1 dk_Diary_0_66 rfl (lv_at hl 1 rfl) ?_
  refine lv_iload_n hC.1 hC.2.1 dk_Diary_0_67 rfl (lv_at hl 0 rfl) ?_
  refine kr_putF (b := 0) (w1 := 316) (v := .int 4000) (ty := .int) (nm := "mostLines") (ds := "I") (N := 9) hC hin hW rfl (by decide +kernel) (by decide) (by decide +kernel) (by decide +kernel) rfl rfl (by exact Nat.le_of_ble_eq_true rfl) dk_Diary_0_68 (fun H locs hW => ?_)
  have hW : Wn D cs A ((h0, .inr (2, [.int 4000, .int 0, .int 0, .null, .ref q9, .ref q21, .ref q33, .ref q45, .ref q55])) :: T5) s H locs := hW
  refine lv_aload_n hC.1 hC.2.1 dk_Diary_0_71 rfl (lv_at hl 1 rfl) ?_
  refine lv_iconst (v := 5) hC.1 hC.2.1 dk_Diary_0_72 (by decide) ?_
  refine lv_iload_n hC.1 hC.2.1 dk_Diary_0_73 rfl (lv_at hl 0 rfl) ?_
  refine kr_grid hC hW (w1 := 312) (N := 5) (K := 4000) (by decide +kernel) (by decide) (by decide) (by decide) (by decide) (by decide) (by decide) (by exact Nat.le_of_ble_eq_true rfl) (by exact Nat.le_of_ble_eq_true rfl) dk_Diary_0_74 (fun q74 H hW => ?_)
  refine kr_putF (b := 3) (w1 := 321) (v := .ref q74) (ty := (.array (.array .int))) (nm := "line") (ds := "[[I") (N := 9) hC hin hW rfl (by decide +kernel) (by decide) (by decide +kernel) (by decide +kernel) rfl rfl (by exact Nat.le_of_ble_eq_true rfl) dk_Diary_0_78 (fun H locs hW => ?_)
  obtain ⟨T6, eT6⟩ : ∃ z, z = T5 ++ grW cs q74 5 4000 := ⟨_, rfl⟩
  have hW : Wn D cs A ((h0, .inr (2, [.int 4000, .int 0, .int 0, .ref q74, .ref q9, .ref q21, .ref q33, .ref q45, .ref q55])) :: (T5 ++ grW cs q74 5 4000)) s H locs := hW
  rw [← eT6] at hW
  have hE : ((h0, .inr (2, [.int 4000, .int 0, .int 0, .ref q74, .ref q9, .ref q21, .ref q33, .ref q45, .ref q55])) :: T6 : va_W) = cnL Lk_Diary_0 cs (fun k d i => bif Nat.beq k 37 then h0 else bif Nat.beq k 39 then gdA q9 i else bif Nat.beq k 40 then gdA q21 i else bif Nat.beq k 41 then gdA q33 i else bif Nat.beq k 42 then gdA q45 i else bif Nat.beq k 43 then gdA q55 i else bif Nat.beq k 38 then gdA q74 i else 0) sC := by
    subst eT1 eT2 eT3 eT4 eT5 eT6
    rfl
  refine W.widen (k := 59) (n := 21217) (by exact Nat.le_of_ble_eq_true rfl) (by exact Nat.le_of_ble_eq_true rfl) ?_
  exact W.vret hC.1 hC.2.1 hr (fun t ht hWm => ⟨⟨_, rfl, ⟨_, rfl, hE⟩, by rw [ht]; exact hW.1.1, va_K.moved hWm.alike hW.1.2.1.1, hW.1.2.2⟩, hW.2.1.F ht⟩) hW.2.1.2.2 dk_Diary_0_81
def Lk_Diary_1 : List Lb := (37, true, 0) :: ((((((([] : List Lb) ++ lbK 39 true) ++ lbK 40 true) ++ lbK 41 true) ++ lbK 42 true) ++ lbK 43 true) ++ lbK 38 true)
theorem k_Diary_1 (l : Launch) (D : va_G) (cs : Cs) (h0 sz : Nat) : Kt l ⟨"BikeTown$Diary", "<init>", "(I)V"⟩ prog_4_method_1_code 3 [.int 0] D cs h0 sz (2, dfS 9 tyX2) 1 59 1217 (fun w1 => ∃ a : Ad, a 37 true 0 = h0 ∧ w1 = cnL Lk_Diary_1 cs a sC) := by
  refine Met.ofW (cc := prog_4_method_1_code) (maxL := 3) (ret := none) (by decide) rfl ?_
  intro p e s m args below meth c s₁ B hml hv
  obtain ⟨rfl, hsz, hP, hK, hD0⟩ := hv
  subst hsz
  have hlocks := B.notSynchronized
  have hr := B.returns
  have hin : meth.name = "<init>" := (name_of_methodNamed B.named B.method).1
  have hts := atoms_spec (ws := .code ⟨"BikeTown$Diary", "<init>", "(I)V"⟩ prog_4_method_1_code 3 none :: lw_g) B.pre
  have hC : Cw "BikeTown$Diary" prog_4_method_1_code 3 p s m (.ref h0 :: [.int 0]).toArray c := ⟨B.exec, B.bytes, hml, findClass_of_methodNamed B.named, fun w hw => hts w (List.mem_cons_of_mem _ hw)⟩
  have hD := hD0.self (sz := s.heap.size)
  generalize hAe : va_A [(h0, .inr (2, dfS 9 tyX2))] s.heap.size = A at hD ⊢
  have hW : Wn D cs A ((h0, .inr (2, [.int 0, .int 0, .int 0, .null, .null, .null, .null, .null, .null])) :: ([] : va_W)) s s.heap [] := ⟨⟨hP, hK, hD⟩, va_S.rf, fun q h => by rw [← hAe]; exact Or.inr h⟩
  have hl := lv_entry (.ref h0 :: [.int 0]) (n := 3) (Nat.le_of_ble_eq_true rfl)
  rw [lg_entry_eq]
  generalize (lg_sl (.ref h0 :: [.int 0]) ++ List.replicate (3 - (lg_sl (.ref h0 :: [.int 0])).length) Slot.unset).toArray = ls at hl ⊢
  have hl : lv_has ls 3 [(0, .ref h0), (1, .int 0)] := hl
  refine lv_aload_n hC.1 hC.2.1 dk_Diary_0_0 rfl (lv_at hl 0 rfl) ?_
  refine kr_super hC (w1 := 311) (by decide +kernel) hl.1 (by exact Nat.le_of_ble_eq_true rfl) (by exact Nat.le_of_ble_eq_true rfl) dk_Diary_0_1 ?_
  refine lv_aload_n hC.1 hC.2.1 dk_Diary_0_4 rfl (lv_at hl 0 rfl) ?_
  refine lv_bipush (v := 12) hC.1 hC.2.1 dk_Diary_0_5 (by decide) ?_
  refine lv_bipush (v := 24) hC.1 hC.2.1 dk_Diary_0_7 (by decide) ?_
  refine kr_grid hC hW (w1 := 312) (N := 12) (K := 24) (by decide +kernel) (by decide) (by decide) (by decide) (by decide) (by decide) (by decide) (by exact Nat.le_of_ble_eq_true rfl) (by exact Nat.le_of_ble_eq_true rfl) dk_Diary_0_9 (fun q9 H hW => ?_)
  refine kr_putF (b := 4) (w1 := 323) (v := .ref q9) (ty := (.array (.array .int))) (nm := "taken") (ds := "[[I") (N := 9) hC hin hW rfl (by decide +kernel) (by decide) (by decide +kernel) (by decide +kernel) rfl rfl (by exact Nat.le_of_ble_eq_true rfl) dk_Diary_0_13 (fun H locs hW => ?_)
  obtain ⟨T1, eT1⟩ : ∃ z, z = ([] : va_W) ++ grW cs q9 12 24 := ⟨_, rfl⟩
  have hW : Wn D cs A ((h0, .inr (2, [.int 0, .int 0, .int 0, .null, .ref q9, .null, .null, .null, .null])) :: (([] : va_W) ++ grW cs q9 12 24)) s H locs := hW
  rw [← eT1] at hW
  refine lv_aload_n hC.1 hC.2.1 dk_Diary_0_16 rfl (lv_at hl 0 rfl) ?_
  refine lv_bipush (v := 12) hC.1 hC.2.1 dk_Diary_0_17 (by decide) ?_
  refine lv_bipush (v := 24) hC.1 hC.2.1 dk_Diary_0_19 (by decide) ?_
  refine kr_grid hC hW (w1 := 312) (N := 12) (K := 24) (by decide +kernel) (by decide) (by decide) (by decide) (by decide) (by decide) (by decide) (by exact Nat.le_of_ble_eq_true rfl) (by exact Nat.le_of_ble_eq_true rfl) dk_Diary_0_21 (fun q21 H hW => ?_)
  refine kr_putF (b := 5) (w1 := 327) (v := .ref q21) (ty := (.array (.array .int))) (nm := "lost") (ds := "[[I") (N := 9) hC hin hW rfl (by decide +kernel) (by decide) (by decide +kernel) (by decide +kernel) rfl rfl (by exact Nat.le_of_ble_eq_true rfl) dk_Diary_0_25 (fun H locs hW => ?_)
  obtain ⟨T2, eT2⟩ : ∃ z, z = T1 ++ grW cs q21 12 24 := ⟨_, rfl⟩
  have hW : Wn D cs A ((h0, .inr (2, [.int 0, .int 0, .int 0, .null, .ref q9, .ref q21, .null, .null, .null])) :: (T1 ++ grW cs q21 12 24)) s H locs := hW
  rw [← eT2] at hW
  refine lv_aload_n hC.1 hC.2.1 dk_Diary_0_28 rfl (lv_at hl 0 rfl) ?_
  refine lv_bipush (v := 12) hC.1 hC.2.1 dk_Diary_0_29 (by decide) ?_
  refine lv_bipush (v := 24) hC.1 hC.2.1 dk_Diary_0_31 (by decide) ?_
  refine kr_grid hC hW (w1 := 312) (N := 12) (K := 24) (by decide +kernel) (by decide) (by decide) (by decide) (by decide) (by decide) (by decide) (by exact Nat.le_of_ble_eq_true rfl) (by exact Nat.le_of_ble_eq_true rfl) dk_Diary_0_33 (fun q33 H hW => ?_)
  refine kr_putF (b := 6) (w1 := 330) (v := .ref q33) (ty := (.array (.array .int))) (nm := "empty") (ds := "[[I") (N := 9) hC hin hW rfl (by decide +kernel) (by decide) (by decide +kernel) (by decide +kernel) rfl rfl (by exact Nat.le_of_ble_eq_true rfl) dk_Diary_0_37 (fun H locs hW => ?_)
  obtain ⟨T3, eT3⟩ : ∃ z, z = T2 ++ grW cs q33 12 24 := ⟨_, rfl⟩
  have hW : Wn D cs A ((h0, .inr (2, [.int 0, .int 0, .int 0, .null, .ref q9, .ref q21, .ref q33, .null, .null])) :: (T2 ++ grW cs q33 12 24)) s H locs := hW
  rw [← eT3] at hW
  refine lv_aload_n hC.1 hC.2.1 dk_Diary_0_40 rfl (lv_at hl 0 rfl) ?_
  refine lv_bipush (v := 12) hC.1 hC.2.1 dk_Diary_0_41 (by decide) ?_
  refine lv_bipush (v := 24) hC.1 hC.2.1 dk_Diary_0_43 (by decide) ?_
  refine kr_grid hC hW (w1 := 312) (N := 12) (K := 24) (by decide +kernel) (by decide) (by decide) (by decide) (by decide) (by decide) (by decide) (by exact Nat.le_of_ble_eq_true rfl) (by exact Nat.le_of_ble_eq_true rfl) dk_Diary_0_45 (fun q45 H hW => ?_)
  refine kr_putF (b := 7) (w1 := 333) (v := .ref q45) (ty := (.array (.array .int))) (nm := "busiest") (ds := "[[I") (N := 9) hC hin hW rfl (by decide +kernel) (by decide) (by decide +kernel) (by decide +kernel) rfl rfl (by exact Nat.le_of_ble_eq_true rfl) dk_Diary_0_49 (fun H locs hW => ?_)
  obtain ⟨T4, eT4⟩ : ∃ z, z = T3 ++ grW cs q45 12 24 := ⟨_, rfl⟩
  have hW : Wn D cs A ((h0, .inr (2, [.int 0, .int 0, .int 0, .null, .ref q9, .ref q21, .ref q33, .ref q45, .null])) :: (T3 ++ grW cs q45 12 24)) s H locs := hW
  rw [← eT4] at hW
  refine lv_aload_n hC.1 hC.2.1 dk_Diary_0_52 rfl (lv_at hl 0 rfl) ?_
  refine lv_bipush (v := 12) hC.1 hC.2.1 dk_Diary_0_53 (by decide) ?_
  refine kr_newI hC hW (N := 12) mw_ai (by decide) (by decide) (by decide) (by exact Nat.le_of_ble_eq_true rfl) (by exact Nat.le_of_ble_eq_true rfl) dk_Diary_0_55 (fun q55 H hW => ?_)
  refine kr_putF (b := 8) (w1 := 335) (v := .ref q55) (ty := (.array .int)) (nm := "takenNow") (ds := "[I") (N := 9) hC hin hW rfl (by decide +kernel) (by decide) (by decide +kernel) (by decide +kernel) rfl rfl (by exact Nat.le_of_ble_eq_true rfl) dk_Diary_0_57 (fun H locs hW => ?_)
  obtain ⟨T5, eT5⟩ : ∃ z, z = T4 ++ [(q55, .inl (cs.1, 12, .inl fun _ => 0))] := ⟨_, rfl⟩
  have hW : Wn D cs A ((h0, .inr (2, [.int 0, .int 0, .int 0, .null, .ref q9, .ref q21, .ref q33, .ref q45, .ref q55])) :: (T4 ++ [(q55, .inl (cs.1, 12, .inl fun _ => 0))])) s H locs := hW
  rw [← eT5] at hW
  refine lv_iconst (v := 0) hC.1 hC.2.1 dk_Diary_0_60 (by decide) ?_
  refine lv_iload_n hC.1 hC.2.1 dk_Diary_0_61 rfl (lv_at hl 1 rfl) ?_
  refine va_mmax hC.1 hC.2.1 (hC.2.2.1.trans hl.1.symm) hC.2.2.2.1 (hts_at hC.2.2.2.2 (n := 313) (by decide +kernel)) (hts_at hC.2.2.2.2 mw_max.1) (hts_at hC.2.2.2.2 mw_max.2.1) (hts_at hC.2.2.2.2 mw_max.2.2) (by exact Nat.le_of_ble_eq_true rfl) (by exact Nat.le_of_ble_eq_true rfl) (by exact Nat.le_of_ble_eq_true rfl) (by exact Nat.le_of_ble_eq_true rfl) dk_Diary_0_62 ?_
  rw [show (if (0 : Int32) < 0 then (0 : Int32) else 0) = 0 by decide]
  refine lv_istore_n hC.1 hC.2.1 dk_Diary_0_65 rfl hl (by decide) rfl (fun ls hl => ?_)
  have hl : lv_has ls 3 [(2, .int 0), (0, .ref h0), (1, .int 0)] := hl
  refine lv_aload_n hC.1 hC.2.1 dk_Diary_0_66 rfl (lv_at hl 1 rfl) ?_
  refine lv_iload_n hC.1 hC.2.1 dk_Diary_0_67 rfl (lv_at hl 0 rfl) ?_
  refine kr_putF (b := 0) (w1 := 316) (v := .int 0) (ty := .int) (nm := "mostLines") (ds := "I") (N := 9) hC hin hW rfl (by decide +kernel) (by decide) (by decide +kernel) (by decide +kernel) rfl rfl (by exact Nat.le_of_ble_eq_true rfl) dk_Diary_0_68 (fun H locs hW => ?_)
  have hW : Wn D cs A ((h0, .inr (2, [.int 0, .int 0, .int 0, .null, .ref q9, .ref q21, .ref q33, .ref q45, .ref q55])) :: T5) s H locs := hW
  refine lv_aload_n hC.1 hC.2.1 dk_Diary_0_71 rfl (lv_at hl 1 rfl) ?_
  refine lv_iconst (v := 5) hC.1 hC.2.1 dk_Diary_0_72 (by decide) ?_
  refine lv_iload_n hC.1 hC.2.1 dk_Diary_0_73 rfl (lv_at hl 0 rfl) ?_
  refine kr_grid hC hW (w1 := 312) (N := 5) (K := 0) (by decide +kernel) (by decide) (by decide) (by decide) (by decide) (by decide) (by decide) (by exact Nat.le_of_ble_eq_true rfl) (by exact Nat.le_of_ble_eq_true rfl) dk_Diary_0_74 (fun q74 H hW => ?_)
  refine kr_putF (b := 3) (w1 := 321) (v := .ref q74) (ty := (.array (.array .int))) (nm := "line") (ds := "[[I") (N := 9) hC hin hW rfl (by decide +kernel) (by decide) (by decide +kernel) (by decide +kernel) rfl rfl (by exact Nat.le_of_ble_eq_true rfl) dk_Diary_0_78 (fun H locs hW => ?_)
  obtain ⟨T6, eT6⟩ : ∃ z, z = T5 ++ grW cs q74 5 0 := ⟨_, rfl⟩
  have hW : Wn D cs A ((h0, .inr (2, [.int 0, .int 0, .int 0, .ref q74, .ref q9, .ref q21, .ref q33, .ref q45, .ref q55])) :: (T5 ++ grW cs q74 5 0)) s H locs := hW
  rw [← eT6] at hW
  have hE : ((h0, .inr (2, [.int 0, .int 0, .int 0, .ref q74, .ref q9, .ref q21, .ref q33, .ref q45, .ref q55])) :: T6 : va_W) = cnL Lk_Diary_1 cs (fun k d i => bif Nat.beq k 37 then h0 else bif Nat.beq k 39 then gdA q9 i else bif Nat.beq k 40 then gdA q21 i else bif Nat.beq k 41 then gdA q33 i else bif Nat.beq k 42 then gdA q45 i else bif Nat.beq k 43 then gdA q55 i else bif Nat.beq k 38 then gdA q74 i else 0) sC := by
    subst eT1 eT2 eT3 eT4 eT5 eT6
    rfl
  refine W.widen (k := 59) (n := 1217) (by exact Nat.le_of_ble_eq_true rfl) (by exact Nat.le_of_ble_eq_true rfl) ?_
  exact W.vret hC.1 hC.2.1 hr (fun t ht hWm => ⟨⟨_, rfl, ⟨_, rfl, hE⟩, by rw [ht]; exact hW.1.1, va_K.moved hWm.alike hW.1.2.1.1, hW.1.2.2⟩, hW.2.1.F ht⟩) hW.2.1.2.2 dk_Diary_0_81
