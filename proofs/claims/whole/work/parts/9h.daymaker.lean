/-! The makers of a day and of the whole. -/
theorem cnL_cons (c : Lb) (L : List Lb) (cs : Cs) (as : Ad) (σ : Sg) : cnL (c :: L) cs as σ = (as c.1 c.2.1 c.2.2, cel cs as σ c.1 c.2.1 c.2.2) :: cnL L cs as σ := rfl
theorem cnL_app (L1 L2 : List Lb) (cs : Cs) (as : Ad) (σ : Sg) : cnL (L1 ++ L2) cs as σ = cnL L1 cs as σ ++ cnL L2 cs as σ := List.map_append
theorem cnL_nil (cs : Cs) (as : Ad) (σ : Sg) : cnL [] cs as σ = [] := rfl
theorem dk_Day_0_0 : decode prog_2_method_1_code 0 = .ok (.aload_n 0, 1) := by decide +kernel
theorem dk_Day_0_1 : decode prog_2_method_1_code 1 = .ok (.invokespecial 3, 3) := by decide +kernel
theorem dk_Day_0_4 : decode prog_2_method_1_code 4 = .ok (.aload_n 0, 1) := by decide +kernel
theorem dk_Day_0_5 : decode prog_2_method_1_code 5 = .ok (.new 9, 3) := by decide +kernel
theorem dk_Day_0_8 : decode prog_2_method_1_code 8 = .ok (.dup, 1) := by decide +kernel
theorem dk_Day_0_9 : decode prog_2_method_1_code 9 = .ok (.invokespecial 11, 3) := by decide +kernel
theorem dk_Day_0_12 : decode prog_2_method_1_code 12 = .ok (.putfield 12, 3) := by decide +kernel
theorem dk_Day_0_15 : decode prog_2_method_1_code 15 = .ok (.aload_n 0, 1) := by decide +kernel
theorem dk_Day_0_16 : decode prog_2_method_1_code 16 = .ok (.iconst (-1), 1) := by decide +kernel
theorem dk_Day_0_17 : decode prog_2_method_1_code 17 = .ok (.putfield 18, 3) := by decide +kernel
theorem dk_Day_0_20 : decode prog_2_method_1_code 20 = .ok (.aload_n 0, 1) := by decide +kernel
theorem dk_Day_0_21 : decode prog_2_method_1_code 21 = .ok (.bipush 12, 2) := by decide +kernel
theorem dk_Day_0_23 : decode prog_2_method_1_code 23 = .ok (.newarray .int, 2) := by decide +kernel
theorem dk_Day_0_25 : decode prog_2_method_1_code 25 = .ok (.putfield 22, 3) := by decide +kernel
theorem dk_Day_0_28 : decode prog_2_method_1_code 28 = .ok (.aload_n 0, 1) := by decide +kernel
theorem dk_Day_0_29 : decode prog_2_method_1_code 29 = .ok (.bipush 12, 2) := by decide +kernel
theorem dk_Day_0_31 : decode prog_2_method_1_code 31 = .ok (.newarray .boolean, 2) := by decide +kernel
theorem dk_Day_0_33 : decode prog_2_method_1_code 33 = .ok (.putfield 26, 3) := by decide +kernel
theorem dk_Day_0_36 : decode prog_2_method_1_code 36 = .ok (.aload_n 0, 1) := by decide +kernel
theorem dk_Day_0_37 : decode prog_2_method_1_code 37 = .ok (.bipush 12, 2) := by decide +kernel
theorem dk_Day_0_39 : decode prog_2_method_1_code 39 = .ok (.newarray .int, 2) := by decide +kernel
theorem dk_Day_0_41 : decode prog_2_method_1_code 41 = .ok (.putfield 30, 3) := by decide +kernel
theorem dk_Day_0_44 : decode prog_2_method_1_code 44 = .ok (.aload_n 0, 1) := by decide +kernel
theorem dk_Day_0_45 : decode prog_2_method_1_code 45 = .ok (.bipush 12, 2) := by decide +kernel
theorem dk_Day_0_47 : decode prog_2_method_1_code 47 = .ok (.newarray .int, 2) := by decide +kernel
theorem dk_Day_0_49 : decode prog_2_method_1_code 49 = .ok (.putfield 33, 3) := by decide +kernel
theorem dk_Day_0_52 : decode prog_2_method_1_code 52 = .ok (.aload_n 0, 1) := by decide +kernel
theorem dk_Day_0_53 : decode prog_2_method_1_code 53 = .ok (.bipush 12, 2) := by decide +kernel
theorem dk_Day_0_55 : decode prog_2_method_1_code 55 = .ok (.newarray .int, 2) := by decide +kernel
theorem dk_Day_0_57 : decode prog_2_method_1_code 57 = .ok (.putfield 36, 3) := by decide +kernel
theorem dk_Day_0_60 : decode prog_2_method_1_code 60 = .ok (.aload_n 0, 1) := by decide +kernel
theorem dk_Day_0_61 : decode prog_2_method_1_code 61 = .ok (.iconst 4, 1) := by decide +kernel
theorem dk_Day_0_62 : decode prog_2_method_1_code 62 = .ok (.bipush 60, 2) := by decide +kernel
theorem dk_Day_0_64 : decode prog_2_method_1_code 64 = .ok (.multianewarray 39 2, 4) := by decide +kernel
theorem dk_Day_0_68 : decode prog_2_method_1_code 68 = .ok (.putfield 41, 3) := by decide +kernel
theorem dk_Day_0_71 : decode prog_2_method_1_code 71 = .ok (.aload_n 0, 1) := by decide +kernel
theorem dk_Day_0_72 : decode prog_2_method_1_code 72 = .ok (.bipush 60, 2) := by decide +kernel
theorem dk_Day_0_74 : decode prog_2_method_1_code 74 = .ok (.newarray .int, 2) := by decide +kernel
theorem dk_Day_0_76 : decode prog_2_method_1_code 76 = .ok (.putfield 44, 3) := by decide +kernel
theorem dk_Day_0_79 : decode prog_2_method_1_code 79 = .ok (.aload_n 0, 1) := by decide +kernel
theorem dk_Day_0_80 : decode prog_2_method_1_code 80 = .ok (.bipush 6, 2) := by decide +kernel
theorem dk_Day_0_82 : decode prog_2_method_1_code 82 = .ok (.sipush 200, 3) := by decide +kernel
theorem dk_Day_0_85 : decode prog_2_method_1_code 85 = .ok (.multianewarray 39 2, 4) := by decide +kernel
theorem dk_Day_0_89 : decode prog_2_method_1_code 89 = .ok (.putfield 47, 3) := by decide +kernel
theorem dk_Day_0_92 : decode prog_2_method_1_code 92 = .ok (.aload_n 0, 1) := by decide +kernel
theorem dk_Day_0_93 : decode prog_2_method_1_code 93 = .ok (.sipush 200, 3) := by decide +kernel
theorem dk_Day_0_96 : decode prog_2_method_1_code 96 = .ok (.newarray .int, 2) := by decide +kernel
theorem dk_Day_0_98 : decode prog_2_method_1_code 98 = .ok (.putfield 50, 3) := by decide +kernel
theorem dk_Day_0_101 : decode prog_2_method_1_code 101 = .ok (.aload_n 0, 1) := by decide +kernel
theorem dk_Day_0_102 : decode prog_2_method_1_code 102 = .ok (.bipush 7, 2) := by decide +kernel
theorem dk_Day_0_104 : decode prog_2_method_1_code 104 = .ok (.newarray .int, 2) := by decide +kernel
theorem dk_Day_0_106 : decode prog_2_method_1_code 106 = .ok (.putfield 55, 3) := by decide +kernel
theorem dk_Day_0_109 : decode prog_2_method_1_code 109 = .ok (.aload_n 0, 1) := by decide +kernel
theorem dk_Day_0_110 : decode prog_2_method_1_code 110 = .ok (.aload_n 1, 1) := by decide +kernel
theorem dk_Day_0_111 : decode prog_2_method_1_code 111 = .ok (.putfield 58, 3) := by decide +kernel
theorem dk_Day_0_114 : decode prog_2_method_1_code 114 = .ok (.aload_n 0, 1) := by decide +kernel
theorem dk_Day_0_115 : decode prog_2_method_1_code 115 = .ok (.aload_n 2, 1) := by decide +kernel
theorem dk_Day_0_116 : decode prog_2_method_1_code 116 = .ok (.putfield 62, 3) := by decide +kernel
theorem dk_Day_0_119 : decode prog_2_method_1_code 119 = .ok (.aload_n 0, 1) := by decide +kernel
theorem dk_Day_0_120 : decode prog_2_method_1_code 120 = .ok (.new 66, 3) := by decide +kernel
theorem dk_Day_0_123 : decode prog_2_method_1_code 123 = .ok (.dup, 1) := by decide +kernel
theorem dk_Day_0_124 : decode prog_2_method_1_code 124 = .ok (.iload_n 3, 1) := by decide +kernel
theorem dk_Day_0_125 : decode prog_2_method_1_code 125 = .ok (.invokespecial 68, 3) := by decide +kernel
theorem dk_Day_0_128 : decode prog_2_method_1_code 128 = .ok (.putfield 71, 3) := by decide +kernel
theorem dk_Day_0_131 : decode prog_2_method_1_code 131 = .ok (.return_, 1) := by decide +kernel
def Lk_Day_0 : List Lb := (26, false, 0) :: ((((((((((((([] : List Lb) ++ Lk_Van_0) ++ lbK 27 false) ++ lbK 28 false) ++ lbK 29 false) ++ lbK 30 false) ++ lbK 31 false) ++ lbK 32 false) ++ lbK 33 false) ++ lbK 34 false) ++ lbK 35 false) ++ lbK 36 false) ++ Lk_Diary_0)
theorem k_Day_0 (l : Launch) (D : va_G) (cs : Cs) (h0 sz : Nat) (t0 r0 : Nat) : Kt l ⟨"BikeTown$Day", "<init>", "(LBikeTown$Told;LBikeTown$Rules;I)V"⟩ prog_2_method_1_code 4 [.ref t0, .ref r0, .int 4000] D cs h0 sz (0, dfS 16 tyX0) 2 84 23062 (fun w1 => ∃ a : Ad, a 26 false 0 = h0 ∧ w1 = cnL Lk_Day_0 cs (fun k d i => bif Nat.beq k 1 then t0 else bif Nat.beq k 12 then r0 else a k d i) sC) := by
  refine Met.ofW (cc := prog_2_method_1_code) (maxL := 4) (ret := none) (by decide) rfl ?_
  intro p e s m args below meth c s₁ B hml hv
  obtain ⟨rfl, hsz, hP, hK, hD0⟩ := hv
  subst hsz
  have hlocks := B.notSynchronized
  have hr := B.returns
  have hin : meth.name = "<init>" := (name_of_methodNamed B.named B.method).1
  have hts := atoms_spec (ws := .code ⟨"BikeTown$Day", "<init>", "(LBikeTown$Told;LBikeTown$Rules;I)V"⟩ prog_2_method_1_code 4 none :: lw_g) B.pre
  have hC : Cw "BikeTown$Day" prog_2_method_1_code 4 p s m (.ref h0 :: [.ref t0, .ref r0, .int 4000]).toArray c := ⟨B.exec, B.bytes, hml, findClass_of_methodNamed B.named, fun w hw => hts w (List.mem_cons_of_mem _ hw)⟩
  have hD := hD0.self (sz := s.heap.size)
  generalize hAe : va_A [(h0, .inr (0, dfS 16 tyX0))] s.heap.size = A at hD ⊢
  have hW : Wn D cs A ((h0, .inr (0, [.null, .null, .null, .null, .int 0, .int 0, .null, .null, .null, .null, .null, .null, .null, .null, .null, .null])) :: ([] : va_W)) s s.heap [] := ⟨⟨hP, hK, hD⟩, va_S.rf, fun q h => by rw [← hAe]; exact Or.inr h⟩
  have hl := lv_entry (.ref h0 :: [.ref t0, .ref r0, .int 4000]) (n := 4) (Nat.le_of_ble_eq_true rfl)
  rw [lg_entry_eq]
  generalize (lg_sl (.ref h0 :: [.ref t0, .ref r0, .int 4000]) ++ List.replicate (4 - (lg_sl (.ref h0 :: [.ref t0, .ref r0, .int 4000])).length) Slot.unset).toArray = ls at hl ⊢
  have hl : lv_has ls 4 [(0, .ref h0), (1, .ref t0), (2, .ref r0), (3, .int 4000)] := hl
  refine lv_aload_n hC.1 hC.2.1 dk_Day_0_0 rfl (lv_at hl 0 rfl) ?_
  refine kr_super hC (w1 := 264) (by decide +kernel) hl.1 (by exact Nat.le_of_ble_eq_true rfl) (by exact Nat.le_of_ble_eq_true rfl) dk_Day_0_1 ?_
  refine lv_aload_n hC.1 hC.2.1 dk_Day_0_4 rfl (lv_at hl 0 rfl) ?_
  refine kr_obj hC hW (ci := 10) (w1 := 265) (w2 := 266) (w3 := 85) (N := 7) rfl tyX10 tyX10_ok (by decide +kernel) (by decide +kernel) (by decide +kernel) (by exact Nat.le_of_ble_eq_true rfl) (by exact Nat.le_of_ble_eq_true rfl) dk_Day_0_5 (fun q5 H hW => ?_)
  refine lv_dup hC.1 hC.2.1 dk_Day_0_8 rfl ?_
  refine kr_call (rest := [.ref q5, .ref h0]) hC hW (k_Van_0 l D cs q5 H.size) (wc := 269) (wi := 85) (wm := 268) (wl := 267) (n := 0) (by decide +kernel) (by decide +kernel) (by decide +kernel) (.inr ⟨"BikeTown", by decide +kernel⟩) rfl (by decide +kernel) ⟨(by exact Nat.le_of_ble_eq_true rfl), (by exact Nat.le_of_ble_eq_true rfl)⟩ rfl hl.1 rfl (by exact Nat.le_of_ble_eq_true rfl) dk_Day_0_9 (by exact Nat.le_of_ble_eq_true rfl) (by exact Nat.le_of_ble_eq_true rfl) (fun w9 H locs hp9 hW => ?_)
  obtain ⟨a9, g9, rfl⟩ := hp9
  obtain ⟨T1, eT1⟩ : ∃ z, z = ([] : va_W) ++ cnL Lk_Van_0 cs a9 sC := ⟨_, rfl⟩
  rw [List.cons_append, ← eT1] at hW
  refine kr_putF (b := 3) (w1 := 359) (v := .ref q5) (ty := (.object "BikeTown$Van")) (nm := "van") (ds := "LBikeTown$Van;") (N := 16) hC hin hW rfl (by decide +kernel) (by decide) (by decide +kernel) (by decide +kernel) rfl rfl (by exact Nat.le_of_ble_eq_true rfl) dk_Day_0_12 (fun H locs hW => ?_)
  have hW : Wn D cs A ((h0, .inr (0, [.null, .null, .null, .ref q5, .int 0, .int 0, .null, .null, .null, .null, .null, .null, .null, .null, .null, .null])) :: T1) s H locs := hW
  refine lv_aload_n hC.1 hC.2.1 dk_Day_0_15 rfl (lv_at hl 0 rfl) ?_
  refine lv_iconst (v := (-1)) hC.1 hC.2.1 dk_Day_0_16 (by decide) ?_
  refine kr_put (b := 5) (w1 := 363) (v := .int (-1)) (ty := .int) (nm := "turnedRule") (ds := "I") (N := 16) hC hW rfl (by decide +kernel) (by decide) (by decide +kernel) (by decide +kernel) rfl rfl (by exact Nat.le_of_ble_eq_true rfl) dk_Day_0_17 (fun H locs hW => ?_)
  have hW : Wn D cs A ((h0, .inr (0, [.null, .null, .null, .ref q5, .int 0, .int (-1), .null, .null, .null, .null, .null, .null, .null, .null, .null, .null])) :: T1) s H locs := hW
  refine lv_aload_n hC.1 hC.2.1 dk_Day_0_20 rfl (lv_at hl 0 rfl) ?_
  refine lv_bipush (v := 12) hC.1 hC.2.1 dk_Day_0_21 (by decide) ?_
  refine kr_newI hC hW (N := 12) mw_ai (by decide) (by decide) (by decide) (by exact Nat.le_of_ble_eq_true rfl) (by exact Nat.le_of_ble_eq_true rfl) dk_Day_0_23 (fun q23 H hW => ?_)
  refine kr_putF (b := 6) (w1 := 364) (v := .ref q23) (ty := (.array .int)) (nm := "price") (ds := "[I") (N := 16) hC hin hW rfl (by decide +kernel) (by decide) (by decide +kernel) (by decide +kernel) rfl rfl (by exact Nat.le_of_ble_eq_true rfl) dk_Day_0_25 (fun H locs hW => ?_)
  obtain ⟨T2, eT2⟩ : ∃ z, z = T1 ++ [(q23, .inl (cs.1, 12, .inl fun _ => 0))] := ⟨_, rfl⟩
  have hW : Wn D cs A ((h0, .inr (0, [.null, .null, .null, .ref q5, .int 0, .int (-1), .ref q23, .null, .null, .null, .null, .null, .null, .null, .null, .null])) :: (T1 ++ [(q23, .inl (cs.1, 12, .inl fun _ => 0))])) s H locs := hW
  rw [← eT2] at hW
  refine lv_aload_n hC.1 hC.2.1 dk_Day_0_28 rfl (lv_at hl 0 rfl) ?_
  refine lv_bipush (v := 12) hC.1 hC.2.1 dk_Day_0_29 (by decide) ?_
  refine kr_newB hC hW (N := 12) mw_az (by decide) (by decide) (by decide) (by exact Nat.le_of_ble_eq_true rfl) (by exact Nat.le_of_ble_eq_true rfl) dk_Day_0_31 (fun q31 H hW => ?_)
  refine kr_putF (b := 7) (w1 := 366) (v := .ref q31) (ty := (.array .boolean)) (nm := "isOpen") (ds := "[Z") (N := 16) hC hin hW rfl (by decide +kernel) (by decide) (by decide +kernel) (by decide +kernel) rfl rfl (by exact Nat.le_of_ble_eq_true rfl) dk_Day_0_33 (fun H locs hW => ?_)
  obtain ⟨T3, eT3⟩ : ∃ z, z = T2 ++ [(q31, .inl (cs.2.1, 12, .inl fun _ => 0))] := ⟨_, rfl⟩
  have hW : Wn D cs A ((h0, .inr (0, [.null, .null, .null, .ref q5, .int 0, .int (-1), .ref q23, .ref q31, .null, .null, .null, .null, .null, .null, .null, .null])) :: (T2 ++ [(q31, .inl (cs.2.1, 12, .inl fun _ => 0))])) s H locs := hW
  rw [← eT3] at hW
  refine lv_aload_n hC.1 hC.2.1 dk_Day_0_36 rfl (lv_at hl 0 rfl) ?_
  refine lv_bipush (v := 12) hC.1 hC.2.1 dk_Day_0_37 (by decide) ?_
  refine kr_newI hC hW (N := 12) mw_ai (by decide) (by decide) (by decide) (by exact Nat.le_of_ble_eq_true rfl) (by exact Nat.le_of_ble_eq_true rfl) dk_Day_0_39 (fun q39 H hW => ?_)
  refine kr_putF (b := 8) (w1 := 368) (v := .ref q39) (ty := (.array .int)) (nm := "bikesAt") (ds := "[I") (N := 16) hC hin hW rfl (by decide +kernel) (by decide) (by decide +kernel) (by decide +kernel) rfl rfl (by exact Nat.le_of_ble_eq_true rfl) dk_Day_0_41 (fun H locs hW => ?_)
  obtain ⟨T4, eT4⟩ : ∃ z, z = T3 ++ [(q39, .inl (cs.1, 12, .inl fun _ => 0))] := ⟨_, rfl⟩
  have hW : Wn D cs A ((h0, .inr (0, [.null, .null, .null, .ref q5, .int 0, .int (-1), .ref q23, .ref q31, .ref q39, .null, .null, .null, .null, .null, .null, .null])) :: (T3 ++ [(q39, .inl (cs.1, 12, .inl fun _ => 0))])) s H locs := hW
  rw [← eT4] at hW
  refine lv_aload_n hC.1 hC.2.1 dk_Day_0_44 rfl (lv_at hl 0 rfl) ?_
  refine lv_bipush (v := 12) hC.1 hC.2.1 dk_Day_0_45 (by decide) ?_
  refine kr_newI hC hW (N := 12) mw_ai (by decide) (by decide) (by decide) (by exact Nat.le_of_ble_eq_true rfl) (by exact Nat.le_of_ble_eq_true rfl) dk_Day_0_47 (fun q47 H hW => ?_)
  refine kr_putF (b := 9) (w1 := 369) (v := .ref q47) (ty := (.array .int)) (nm := "soundAt") (ds := "[I") (N := 16) hC hin hW rfl (by decide +kernel) (by decide) (by decide +kernel) (by decide +kernel) rfl rfl (by exact Nat.le_of_ble_eq_true rfl) dk_Day_0_49 (fun H locs hW => ?_)
  obtain ⟨T5, eT5⟩ : ∃ z, z = T4 ++ [(q47, .inl (cs.1, 12, .inl fun _ => 0))] := ⟨_, rfl⟩
  have hW : Wn D cs A ((h0, .inr (0, [.null, .null, .null, .ref q5, .int 0, .int (-1), .ref q23, .ref q31, .ref q39, .ref q47, .null, .null, .null, .null, .null, .null])) :: (T4 ++ [(q47, .inl (cs.1, 12, .inl fun _ => 0))])) s H locs := hW
  rw [← eT5] at hW
  refine lv_aload_n hC.1 hC.2.1 dk_Day_0_52 rfl (lv_at hl 0 rfl) ?_
  refine lv_bipush (v := 12) hC.1 hC.2.1 dk_Day_0_53 (by decide) ?_
  refine kr_newI hC hW (N := 12) mw_ai (by decide) (by decide) (by decide) (by exact Nat.le_of_ble_eq_true rfl) (by exact Nat.le_of_ble_eq_true rfl) dk_Day_0_55 (fun q55 H hW => ?_)
  refine kr_putF (b := 10) (w1 := 370) (v := .ref q55) (ty := (.array .int)) (nm := "waiting") (ds := "[I") (N := 16) hC hin hW rfl (by decide +kernel) (by decide) (by decide +kernel) (by decide +kernel) rfl rfl (by exact Nat.le_of_ble_eq_true rfl) dk_Day_0_57 (fun H locs hW => ?_)
  obtain ⟨T6, eT6⟩ : ∃ z, z = T5 ++ [(q55, .inl (cs.1, 12, .inl fun _ => 0))] := ⟨_, rfl⟩
  have hW : Wn D cs A ((h0, .inr (0, [.null, .null, .null, .ref q5, .int 0, .int (-1), .ref q23, .ref q31, .ref q39, .ref q47, .ref q55, .null, .null, .null, .null, .null])) :: (T5 ++ [(q55, .inl (cs.1, 12, .inl fun _ => 0))])) s H locs := hW
  rw [← eT6] at hW
  refine lv_aload_n hC.1 hC.2.1 dk_Day_0_60 rfl (lv_at hl 0 rfl) ?_
  refine lv_iconst (v := 4) hC.1 hC.2.1 dk_Day_0_61 (by decide) ?_
  refine lv_bipush (v := 60) hC.1 hC.2.1 dk_Day_0_62 (by decide) ?_
  refine kr_grid hC hW (w1 := 305) (N := 4) (K := 60) (by decide +kernel) (by decide) (by decide) (by decide) (by decide) (by decide) (by decide) (by exact Nat.le_of_ble_eq_true rfl) (by exact Nat.le_of_ble_eq_true rfl) dk_Day_0_64 (fun q64 H hW => ?_)
  refine kr_putF (b := 11) (w1 := 371) (v := .ref q64) (ty := (.array (.array .int))) (nm := "bike") (ds := "[[I") (N := 16) hC hin hW rfl (by decide +kernel) (by decide) (by decide +kernel) (by decide +kernel) rfl rfl (by exact Nat.le_of_ble_eq_true rfl) dk_Day_0_68 (fun H locs hW => ?_)
  obtain ⟨T7, eT7⟩ : ∃ z, z = T6 ++ grW cs q64 4 60 := ⟨_, rfl⟩
  have hW : Wn D cs A ((h0, .inr (0, [.null, .null, .null, .ref q5, .int 0, .int (-1), .ref q23, .ref q31, .ref q39, .ref q47, .ref q55, .ref q64, .null, .null, .null, .null])) :: (T6 ++ grW cs q64 4 60)) s H locs := hW
  rw [← eT7] at hW
  refine lv_aload_n hC.1 hC.2.1 dk_Day_0_71 rfl (lv_at hl 0 rfl) ?_
  refine lv_bipush (v := 60) hC.1 hC.2.1 dk_Day_0_72 (by decide) ?_
  refine kr_newI hC hW (N := 60) mw_ai (by decide) (by decide) (by decide) (by exact Nat.le_of_ble_eq_true rfl) (by exact Nat.le_of_ble_eq_true rfl) dk_Day_0_74 (fun q74 H hW => ?_)
  refine kr_putF (b := 12) (w1 := 373) (v := .ref q74) (ty := (.array .int)) (nm := "mendedAt") (ds := "[I") (N := 16) hC hin hW rfl (by decide +kernel) (by decide) (by decide +kernel) (by decide +kernel) rfl rfl (by exact Nat.le_of_ble_eq_true rfl) dk_Day_0_76 (fun H locs hW => ?_)
  obtain ⟨T8, eT8⟩ : ∃ z, z = T7 ++ [(q74, .inl (cs.1, 60, .inl fun _ => 0))] := ⟨_, rfl⟩
  have hW : Wn D cs A ((h0, .inr (0, [.null, .null, .null, .ref q5, .int 0, .int (-1), .ref q23, .ref q31, .ref q39, .ref q47, .ref q55, .ref q64, .ref q74, .null, .null, .null])) :: (T7 ++ [(q74, .inl (cs.1, 60, .inl fun _ => 0))])) s H locs := hW
  rw [← eT8] at hW
  refine lv_aload_n hC.1 hC.2.1 dk_Day_0_79 rfl (lv_at hl 0 rfl) ?_
  refine lv_bipush (v := 6) hC.1 hC.2.1 dk_Day_0_80 (by decide) ?_
  refine lv_sipush (v := 200) hC.1 hC.2.1 dk_Day_0_82 (by decide) ?_
  refine kr_grid hC hW (w1 := 305) (N := 6) (K := 200) (by decide +kernel) (by decide) (by decide) (by decide) (by decide) (by decide) (by decide) (by exact Nat.le_of_ble_eq_true rfl) (by exact Nat.le_of_ble_eq_true rfl) dk_Day_0_85 (fun q85 H hW => ?_)
  refine kr_putF (b := 13) (w1 := 374) (v := .ref q85) (ty := (.array (.array .int))) (nm := "rider") (ds := "[[I") (N := 16) hC hin hW rfl (by decide +kernel) (by decide) (by decide +kernel) (by decide +kernel) rfl rfl (by exact Nat.le_of_ble_eq_true rfl) dk_Day_0_89 (fun H locs hW => ?_)
  obtain ⟨T9, eT9⟩ : ∃ z, z = T8 ++ grW cs q85 6 200 := ⟨_, rfl⟩
  have hW : Wn D cs A ((h0, .inr (0, [.null, .null, .null, .ref q5, .int 0, .int (-1), .ref q23, .ref q31, .ref q39, .ref q47, .ref q55, .ref q64, .ref q74, .ref q85, .null, .null])) :: (T8 ++ grW cs q85 6 200)) s H locs := hW
  rw [← eT9] at hW
  refine lv_aload_n hC.1 hC.2.1 dk_Day_0_92 rfl (lv_at hl 0 rfl) ?_
  refine lv_sipush (v := 200) hC.1 hC.2.1 dk_Day_0_93 (by decide) ?_
  refine kr_newI hC hW (N := 200) mw_ai (by decide) (by decide) (by decide) (by exact Nat.le_of_ble_eq_true rfl) (by exact Nat.le_of_ble_eq_true rfl) dk_Day_0_96 (fun q96 H hW => ?_)
  refine kr_putF (b := 14) (w1 := 376) (v := .ref q96) (ty := (.array .int)) (nm := "rideEnds") (ds := "[I") (N := 16) hC hin hW rfl (by decide +kernel) (by decide) (by decide +kernel) (by decide +kernel) rfl rfl (by exact Nat.le_of_ble_eq_true rfl) dk_Day_0_98 (fun H locs hW => ?_)
  obtain ⟨T10, eT10⟩ : ∃ z, z = T9 ++ [(q96, .inl (cs.1, 200, .inl fun _ => 0))] := ⟨_, rfl⟩
  have hW : Wn D cs A ((h0, .inr (0, [.null, .null, .null, .ref q5, .int 0, .int (-1), .ref q23, .ref q31, .ref q39, .ref q47, .ref q55, .ref q64, .ref q74, .ref q85, .ref q96, .null])) :: (T9 ++ [(q96, .inl (cs.1, 200, .inl fun _ => 0))])) s H locs := hW
  rw [← eT10] at hW
  refine lv_aload_n hC.1 hC.2.1 dk_Day_0_101 rfl (lv_at hl 0 rfl) ?_
  refine lv_bipush (v := 7) hC.1 hC.2.1 dk_Day_0_102 (by decide) ?_
  refine kr_newI hC hW (N := 7) mw_ai (by decide) (by decide) (by decide) (by exact Nat.le_of_ble_eq_true rfl) (by exact Nat.le_of_ble_eq_true rfl) dk_Day_0_104 (fun q104 H hW => ?_)
  refine kr_putF (b := 15) (w1 := 377) (v := .ref q104) (ty := (.array .int)) (nm := "names") (ds := "[I") (N := 16) hC hin hW rfl (by decide +kernel) (by decide) (by decide +kernel) (by decide +kernel) rfl rfl (by exact Nat.le_of_ble_eq_true rfl) dk_Day_0_106 (fun H locs hW => ?_)
  obtain ⟨T11, eT11⟩ : ∃ z, z = T10 ++ [(q104, .inl (cs.1, 7, .inl fun _ => 0))] := ⟨_, rfl⟩
  have hW : Wn D cs A ((h0, .inr (0, [.null, .null, .null, .ref q5, .int 0, .int (-1), .ref q23, .ref q31, .ref q39, .ref q47, .ref q55, .ref q64, .ref q74, .ref q85, .ref q96, .ref q104])) :: (T10 ++ [(q104, .inl (cs.1, 7, .inl fun _ => 0))])) s H locs := hW
  rw [← eT11] at hW
  refine lv_aload_n hC.1 hC.2.1 dk_Day_0_109 rfl (lv_at hl 0 rfl) ?_
  refine lv_aload_n hC.1 hC.2.1 dk_Day_0_110 rfl (lv_at hl 1 rfl) ?_
  refine kr_putF (b := 0) (w1 := 355) (v := .ref t0) (ty := (.object "BikeTown$Told")) (nm := "told") (ds := "LBikeTown$Told;") (N := 16) hC hin hW rfl (by decide +kernel) (by decide) (by decide +kernel) (by decide +kernel) rfl rfl (by exact Nat.le_of_ble_eq_true rfl) dk_Day_0_111 (fun H locs hW => ?_)
  have hW : Wn D cs A ((h0, .inr (0, [.ref t0, .null, .null, .ref q5, .int 0, .int (-1), .ref q23, .ref q31, .ref q39, .ref q47, .ref q55, .ref q64, .ref q74, .ref q85, .ref q96, .ref q104])) :: T11) s H locs := hW
  refine lv_aload_n hC.1 hC.2.1 dk_Day_0_114 rfl (lv_at hl 0 rfl) ?_
  refine lv_aload_n hC.1 hC.2.1 dk_Day_0_115 rfl (lv_at hl 2 rfl) ?_
  refine kr_putF (b := 1) (w1 := 356) (v := .ref r0) (ty := (.object "BikeTown$Rules")) (nm := "rules") (ds := "LBikeTown$Rules;") (N := 16) hC hin hW rfl (by decide +kernel) (by decide) (by decide +kernel) (by decide +kernel) rfl rfl (by exact Nat.le_of_ble_eq_true rfl) dk_Day_0_116 (fun H locs hW => ?_)
  have hW : Wn D cs A ((h0, .inr (0, [.ref t0, .ref r0, .null, .ref q5, .int 0, .int (-1), .ref q23, .ref q31, .ref q39, .ref q47, .ref q55, .ref q64, .ref q74, .ref q85, .ref q96, .ref q104])) :: T11) s H locs := hW
  refine lv_aload_n hC.1 hC.2.1 dk_Day_0_119 rfl (lv_at hl 0 rfl) ?_
  refine kr_obj hC hW (ci := 2) (w1 := 306) (w2 := 307) (w3 := 86) (N := 9) rfl tyX2 tyX2_ok (by decide +kernel) (by decide +kernel) (by decide +kernel) (by exact Nat.le_of_ble_eq_true rfl) (by exact Nat.le_of_ble_eq_true rfl) dk_Day_0_120 (fun q120 H hW => ?_)
  refine lv_dup hC.1 hC.2.1 dk_Day_0_123 rfl ?_
  refine lv_iload_n hC.1 hC.2.1 dk_Day_0_124 rfl (lv_at hl 3 rfl) ?_
  refine kr_call (rest := [.ref q120, .ref h0]) hC hW (k_Diary_0 l D cs q120 H.size) (wc := 310) (wi := 86) (wm := 309) (wl := 308) (n := 1) (by decide +kernel) (by decide +kernel) (by decide +kernel) (.inl (by decide +kernel)) rfl (by decide +kernel) ⟨(by exact Nat.le_of_ble_eq_true rfl), (by exact Nat.le_of_ble_eq_true rfl)⟩ rfl hl.1 rfl (by exact Nat.le_of_ble_eq_true rfl) dk_Day_0_125 (by exact Nat.le_of_ble_eq_true rfl) (by exact Nat.le_of_ble_eq_true rfl) (fun w125 H locs hp125 hW => ?_)
  obtain ⟨a125, g125, rfl⟩ := hp125
  obtain ⟨T12, eT12⟩ : ∃ z, z = T11 ++ cnL Lk_Diary_0 cs a125 sC := ⟨_, rfl⟩
  rw [List.cons_append, ← eT12] at hW
  refine kr_putF (b := 2) (w1 := 357) (v := .ref q120) (ty := (.object "BikeTown$Diary")) (nm := "diary") (ds := "LBikeTown$Diary;") (N := 16) hC hin hW rfl (by decide +kernel) (by decide) (by decide +kernel) (by decide +kernel) rfl rfl (by exact Nat.le_of_ble_eq_true rfl) dk_Day_0_128 (fun H locs hW => ?_)
  have hW : Wn D cs A ((h0, .inr (0, [.ref t0, .ref r0, .ref q120, .ref q5, .int 0, .int (-1), .ref q23, .ref q31, .ref q39, .ref q47, .ref q55, .ref q64, .ref q74, .ref q85, .ref q96, .ref q104])) :: T12) s H locs := hW
  have hE : ((h0, .inr (0, [.ref t0, .ref r0, .ref q120, .ref q5, .int 0, .int (-1), .ref q23, .ref q31, .ref q39, .ref q47, .ref q55, .ref q64, .ref q74, .ref q85, .ref q96, .ref q104])) :: T12 : va_W) = cnL Lk_Day_0 cs (fun k d i => bif Nat.beq k 1 then t0 else bif Nat.beq k 12 then r0 else (fun k d i => bif Nat.beq k 26 then h0 else bif Nat.beq k 27 then gdA q23 i else bif Nat.beq k 28 then gdA q31 i else bif Nat.beq k 29 then gdA q39 i else bif Nat.beq k 30 then gdA q47 i else bif Nat.beq k 31 then gdA q55 i else bif Nat.beq k 32 then gdA q64 i else bif Nat.beq k 33 then gdA q74 i else bif Nat.beq k 34 then gdA q85 i else bif Nat.beq k 35 then gdA q96 i else bif Nat.beq k 36 then gdA q104 i else bif Nat.ble 44 k then a9 k d i else a125 k d i) k d i) sC := by
    subst eT1 eT2 eT3 eT4 eT5 eT6 eT7 eT8 eT9 eT10 eT11 eT12
    rw [← g9, ← g125]
    rfl
  refine W.widen (k := 84) (n := 23062) (by exact Nat.le_of_ble_eq_true rfl) (by exact Nat.le_of_ble_eq_true rfl) ?_
  exact W.vret hC.1 hC.2.1 hr (fun t ht hWm => ⟨⟨_, rfl, ⟨fun k d i => bif Nat.beq k 26 then h0 else bif Nat.beq k 27 then gdA q23 i else bif Nat.beq k 28 then gdA q31 i else bif Nat.beq k 29 then gdA q39 i else bif Nat.beq k 30 then gdA q47 i else bif Nat.beq k 31 then gdA q55 i else bif Nat.beq k 32 then gdA q64 i else bif Nat.beq k 33 then gdA q74 i else bif Nat.beq k 34 then gdA q85 i else bif Nat.beq k 35 then gdA q96 i else bif Nat.beq k 36 then gdA q104 i else bif Nat.ble 44 k then a9 k d i else a125 k d i, rfl, hE⟩, by rw [ht]; exact hW.1.1, va_K.moved hWm.alike hW.1.2.1.1, hW.1.2.2⟩, hW.2.1.F ht⟩) hW.2.1.2.2 dk_Day_0_131
def Lk_Day_1 : List Lb := (26, true, 0) :: ((((((((((((([] : List Lb) ++ Lk_Van_1) ++ lbK 27 true) ++ lbK 28 true) ++ lbK 29 true) ++ lbK 30 true) ++ lbK 31 true) ++ lbK 32 true) ++ lbK 33 true) ++ lbK 34 true) ++ lbK 35 true) ++ lbK 36 true) ++ Lk_Diary_1)
theorem k_Day_1 (l : Launch) (D : va_G) (cs : Cs) (h0 sz : Nat) (t0 r0 : Nat) : Kt l ⟨"BikeTown$Day", "<init>", "(LBikeTown$Told;LBikeTown$Rules;I)V"⟩ prog_2_method_1_code 4 [.ref t0, .ref r0, .int 0] D cs h0 sz (0, dfS 16 tyX0) 2 84 3062 (fun w1 => ∃ a : Ad, a 26 true 0 = h0 ∧ w1 = cnL Lk_Day_1 cs (fun k d i => bif Nat.beq k 1 then t0 else bif Nat.beq k 12 then r0 else a k d i) sC) := by
  refine Met.ofW (cc := prog_2_method_1_code) (maxL := 4) (ret := none) (by decide) rfl ?_
  intro p e s m args below meth c s₁ B hml hv
  obtain ⟨rfl, hsz, hP, hK, hD0⟩ := hv
  subst hsz
  have hlocks := B.notSynchronized
  have hr := B.returns
  have hin : meth.name = "<init>" := (name_of_methodNamed B.named B.method).1
  have hts := atoms_spec (ws := .code ⟨"BikeTown$Day", "<init>", "(LBikeTown$Told;LBikeTown$Rules;I)V"⟩ prog_2_method_1_code 4 none :: lw_g) B.pre
  have hC : Cw "BikeTown$Day" prog_2_method_1_code 4 p s m (.ref h0 :: [.ref t0, .ref r0, .int 0]).toArray c := ⟨B.exec, B.bytes, hml, findClass_of_methodNamed B.named, fun w hw => hts w (List.mem_cons_of_mem _ hw)⟩
  have hD := hD0.self (sz := s.heap.size)
  generalize hAe : va_A [(h0, .inr (0, dfS 16 tyX0))] s.heap.size = A at hD ⊢
  have hW : Wn D cs A ((h0, .inr (0, [.null, .null, .null, .null, .int 0, .int 0, .null, .null, .null, .null, .null, .null, .null, .null, .null, .null])) :: ([] : va_W)) s s.heap [] := ⟨⟨hP, hK, hD⟩, va_S.rf, fun q h => by rw [← hAe]; exact Or.inr h⟩
  have hl := lv_entry (.ref h0 :: [.ref t0, .ref r0, .int 0]) (n := 4) (Nat.le_of_ble_eq_true rfl)
  rw [lg_entry_eq]
  generalize (lg_sl (.ref h0 :: [.ref t0, .ref r0, .int 0]) ++ List.replicate (4 - (lg_sl (.ref h0 :: [.ref t0, .ref r0, .int 0])).length) Slot.unset).toArray = ls at hl ⊢
  have hl : lv_has ls 4 [(0, .ref h0), (1, .ref t0), (2, .ref r0), (3, .int 0)] := hl
  refine lv_aload_n hC.1 hC.2.1 dk_Day_0_0 rfl (lv_at hl 0 rfl) ?_
  refine kr_super hC (w1 := 264) (by decide +kernel) hl.1 (by exact Nat.le_of_ble_eq_true rfl) (by exact Nat.le_of_ble_eq_true rfl) dk_Day_0_1 ?_
  refine lv_aload_n hC.1 hC.2.1 dk_Day_0_4 rfl (lv_at hl 0 rfl) ?_
  refine kr_obj hC hW (ci := 10) (w1 := 265) (w2 := 266) (w3 := 85) (N := 7) rfl tyX10 tyX10_ok (by decide +kernel) (by decide +kernel) (by decide +kernel) (by exact Nat.le_of_ble_eq_true rfl) (by exact Nat.le_of_ble_eq_true rfl) dk_Day_0_5 (fun q5 H hW => ?_)
  refine lv_dup hC.1 hC.2.1 dk_Day_0_8 rfl ?_
  refine kr_call (rest := [.ref q5, .ref h0]) hC hW (k_Van_1 l D cs q5 H.size) (wc := 269) (wi := 85) (wm := 268) (wl := 267) (n := 0) (by decide +kernel) (by decide +kernel) (by decide +kernel) (.inr ⟨"BikeTown", by decide +kernel⟩) rfl (by decide +kernel) ⟨(by exact Nat.le_of_ble_eq_true rfl), (by exact Nat.le_of_ble_eq_true rfl)⟩ rfl hl.1 rfl (by exact Nat.le_of_ble_eq_true rfl) dk_Day_0_9 (by exact Nat.le_of_ble_eq_true rfl) (by exact Nat.le_of_ble_eq_true rfl) (fun w9 H locs hp9 hW => ?_)
  obtain ⟨a9, g9, rfl⟩ := hp9
  obtain ⟨T1, eT1⟩ : ∃ z, z = ([] : va_W) ++ cnL Lk_Van_1 cs a9 sC := ⟨_, rfl⟩
  rw [List.cons_append, ← eT1] at hW
  refine kr_putF (b := 3) (w1 := 359) (v := .ref q5) (ty := (.object "BikeTown$Van")) (nm := "van") (ds := "LBikeTown$Van;") (N := 16) hC hin hW rfl (by decide +kernel) (by decide) (by decide +kernel) (by decide +kernel) rfl rfl (by exact Nat.le_of_ble_eq_true rfl) dk_Day_0_12 (fun H locs hW => ?_)
  have hW : Wn D cs A ((h0, .inr (0, [.null, .null, .null, .ref q5, .int 0, .int 0, .null, .null, .null, .null, .null, .null, .null, .null, .null, .null])) :: T1) s H locs := hW
  refine lv_aload_n hC.1 hC.2.1 dk_Day_0_15 rfl (lv_at hl 0 rfl) ?_
  refine lv_iconst (v := (-1)) hC.1 hC.2.1 dk_Day_0_16 (by decide) ?_
  refine kr_put (b := 5) (w1 := 363) (v := .int (-1)) (ty := .int) (nm := "turnedRule") (ds := "I") (N := 16) hC hW rfl (by decide +kernel) (by decide) (by decide +kernel) (by decide +kernel) rfl rfl (by exact Nat.le_of_ble_eq_true rfl) dk_Day_0_17 (fun H locs hW => ?_)
  have hW : Wn D cs A ((h0, .inr (0, [.null, .null, .null, .ref q5, .int 0, .int (-1), .null, .null, .null, .null, .null, .null, .null, .null, .null, .null])) :: T1) s H locs := hW
  refine lv_aload_n hC.1 hC.2.1 dk_Day_0_20 rfl (lv_at hl 0 rfl) ?_
  refine lv_bipush (v := 12) hC.1 hC.2.1 dk_Day_0_21 (by decide) ?_
  refine kr_newI hC hW (N := 12) mw_ai (by decide) (by decide) (by decide) (by exact Nat.le_of_ble_eq_true rfl) (by exact Nat.le_of_ble_eq_true rfl) dk_Day_0_23 (fun q23 H hW => ?_)
  refine kr_putF (b := 6) (w1 := 364) (v := .ref q23) (ty := (.array .int)) (nm := "price") (ds := "[I") (N := 16) hC hin hW rfl (by decide +kernel) (by decide) (by decide +kernel) (by decide +kernel) rfl rfl (by exact Nat.le_of_ble_eq_true rfl) dk_Day_0_25 (fun H locs hW => ?_)
  obtain ⟨T2, eT2⟩ : ∃ z, z = T1 ++ [(q23, .inl (cs.1, 12, .inl fun _ => 0))] := ⟨_, rfl⟩
  have hW : Wn D cs A ((h0, .inr (0, [.null, .null, .null, .ref q5, .int 0, .int (-1), .ref q23, .null, .null, .null, .null, .null, .null, .null, .null, .null])) :: (T1 ++ [(q23, .inl (cs.1, 12, .inl fun _ => 0))])) s H locs := hW
  rw [← eT2] at hW
  refine lv_aload_n hC.1 hC.2.1 dk_Day_0_28 rfl (lv_at hl 0 rfl) ?_
  refine lv_bipush (v := 12) hC.1 hC.2.1 dk_Day_0_29 (by decide) ?_
  refine kr_newB hC hW (N := 12) mw_az (by decide) (by decide) (by decide) (by exact Nat.le_of_ble_eq_true rfl) (by exact Nat.le_of_ble_eq_true rfl) dk_Day_0_31 (fun q31 H hW => ?_)
  refine kr_putF (b := 7) (w1 := 366) (v := .ref q31) (ty := (.array .boolean)) (nm := "isOpen") (ds := "[Z") (N := 16) hC hin hW rfl (by decide +kernel) (by decide) (by decide +kernel) (by decide +kernel) rfl rfl (by exact Nat.le_of_ble_eq_true rfl) dk_Day_0_33 (fun H locs hW => ?_)
  obtain ⟨T3, eT3⟩ : ∃ z, z = T2 ++ [(q31, .inl (cs.2.1, 12, .inl fun _ => 0))] := ⟨_, rfl⟩
  have hW : Wn D cs A ((h0, .inr (0, [.null, .null, .null, .ref q5, .int 0, .int (-1), .ref q23, .ref q31, .null, .null, .null, .null, .null, .null, .null, .null])) :: (T2 ++ [(q31, .inl (cs.2.1, 12, .inl fun _ => 0))])) s H locs := hW
  rw [← eT3] at hW
  refine lv_aload_n hC.1 hC.2.1 dk_Day_0_36 rfl (lv_at hl 0 rfl) ?_
  refine lv_bipush (v := 12) hC.1 hC.2.1 dk_Day_0_37 (by decide) ?_
  refine kr_newI hC hW (N := 12) mw_ai (by decide) (by decide) (by decide) (by exact Nat.le_of_ble_eq_true rfl) (by exact Nat.le_of_ble_eq_true rfl) dk_Day_0_39 (fun q39 H hW => ?_)
  refine kr_putF (b := 8) (w1 := 368) (v := .ref q39) (ty := (.array .int)) (nm := "bikesAt") (ds := "[I") (N := 16) hC hin hW rfl (by decide +kernel) (by decide) (by decide +kernel) (by decide +kernel) rfl rfl (by exact Nat.le_of_ble_eq_true rfl) dk_Day_0_41 (fun H locs hW => ?_)
  obtain ⟨T4, eT4⟩ : ∃ z, z = T3 ++ [(q39, .inl (cs.1, 12, .inl fun _ => 0))] := ⟨_, rfl⟩
  have hW : Wn D cs A ((h0, .inr (0, [.null, .null, .null, .ref q5, .int 0, .int (-1), .ref q23, .ref q31, .ref q39, .null, .null, .null, .null, .null, .null, .null])) :: (T3 ++ [(q39, .inl (cs.1, 12, .inl fun _ => 0))])) s H locs := hW
  rw [← eT4] at hW
  refine lv_aload_n hC.1 hC.2.1 dk_Day_0_44 rfl (lv_at hl 0 rfl) ?_
  refine lv_bipush (v := 12) hC.1 hC.2.1 dk_Day_0_45 (by decide) ?_
  refine kr_newI hC hW (N := 12) mw_ai (by decide) (by decide) (by decide) (by exact Nat.le_of_ble_eq_true rfl) (by exact Nat.le_of_ble_eq_true rfl) dk_Day_0_47 (fun q47 H hW => ?_)
  refine kr_putF (b := 9) (w1 := 369) (v := .ref q47) (ty := (.array .int)) (nm := "soundAt") (ds := "[I") (N := 16) hC hin hW rfl (by decide +kernel) (by decide) (by decide +kernel) (by decide +kernel) rfl rfl (by exact Nat.le_of_ble_eq_true rfl) dk_Day_0_49 (fun H locs hW => ?_)
  obtain ⟨T5, eT5⟩ : ∃ z, z = T4 ++ [(q47, .inl (cs.1, 12, .inl fun _ => 0))] := ⟨_, rfl⟩
  have hW : Wn D cs A ((h0, .inr (0, [.null, .null, .null, .ref q5, .int 0, .int (-1), .ref q23, .ref q31, .ref q39, .ref q47, .null, .null, .null, .null, .null, .null])) :: (T4 ++ [(q47, .inl (cs.1, 12, .inl fun _ => 0))])) s H locs := hW
  rw [← eT5] at hW
  refine lv_aload_n hC.1 hC.2.1 dk_Day_0_52 rfl (lv_at hl 0 rfl) ?_
  refine lv_bipush (v := 12) hC.1 hC.2.1 dk_Day_0_53 (by decide) ?_
  refine kr_newI hC hW (N := 12) mw_ai (by decide) (by decide) (by decide) (by exact Nat.le_of_ble_eq_true rfl) (by exact Nat.le_of_ble_eq_true rfl) dk_Day_0_55 (fun q55 H hW => ?_)
  refine kr_putF (b := 10) (w1 := 370) (v := .ref q55) (ty := (.array .int)) (nm := "waiting") (ds := "[I") (N := 16) hC hin hW rfl (by decide +kernel) (by decide) (by decide +kernel) (by decide +kernel) rfl rfl (by exact Nat.le_of_ble_eq_true rfl) dk_Day_0_57 (fun H locs hW => ?_)
  obtain ⟨T6, eT6⟩ : ∃ z, z = T5 ++ [(q55, .inl (cs.1, 12, .inl fun _ => 0))] := ⟨_, rfl⟩
  have hW : Wn D cs A ((h0, .inr (0, [.null, .null, .null, .ref q5, .int 0, .int (-1), .ref q23, .ref q31, .ref q39, .ref q47, .ref q55, .null, .null, .null, .null, .null])) :: (T5 ++ [(q55, .inl (cs.1, 12, .inl fun _ => 0))])) s H locs := hW
  rw [← eT6] at hW
  refine lv_aload_n hC.1 hC.2.1 dk_Day_0_60 rfl (lv_at hl 0 rfl) ?_
  refine lv_iconst (v := 4) hC.1 hC.2.1 dk_Day_0_61 (by decide) ?_
  refine lv_bipush (v := 60) hC.1 hC.2.1 dk_Day_0_62 (by decide) ?_
  refine kr_grid hC hW (w1 := 305) (N := 4) (K := 60) (by decide +kernel) (by decide) (by decide) (by decide) (by decide) (by decide) (by decide) (by exact Nat.le_of_ble_eq_true rfl) (by exact Nat.le_of_ble_eq_true rfl) dk_Day_0_64 (fun q64 H hW => ?_)
  refine kr_putF (b := 11) (w1 := 371) (v := .ref q64) (ty := (.array (.array .int))) (nm := "bike") (ds := "[[I") (N := 16) hC hin hW rfl (by decide +kernel) (by decide) (by decide +kernel) (by decide +kernel) rfl rfl (by exact Nat.le_of_ble_eq_true rfl) dk_Day_0_68 (fun H locs hW => ?_)
  obtain ⟨T7, eT7⟩ : ∃ z, z = T6 ++ grW cs q64 4 60 := ⟨_, rfl⟩
  have hW : Wn D cs A ((h0, .inr (0, [.null, .null, .null, .ref q5, .int 0, .int (-1), .ref q23, .ref q31, .ref q39, .ref q47, .ref q55, .ref q64, .null, .null, .null, .null])) :: (T6 ++ grW cs q64 4 60)) s H locs := hW
  rw [← eT7] at hW
  refine lv_aload_n hC.1 hC.2.1 dk_Day_0_71 rfl (lv_at hl 0 rfl) ?_
  refine lv_bipush (v := 60) hC.1 hC.2.1 dk_Day_0_72 (by decide) ?_
  refine kr_newI hC hW (N := 60) mw_ai (by decide) (by decide) (by decide) (by exact Nat.le_of_ble_eq_true rfl) (by exact Nat.le_of_ble_eq_true rfl) dk_Day_0_74 (fun q74 H hW => ?_)
  refine kr_putF (b := 12) (w1 := 373) (v := .ref q74) (ty := (.array .int)) (nm := "mendedAt") (ds := "[I") (N := 16) hC hin hW rfl (by decide +kernel) (by decide) (by decide +kernel) (by decide +kernel) rfl rfl (by exact Nat.le_of_ble_eq_true rfl) dk_Day_0_76 (fun H locs hW => ?_)
  obtain ⟨T8, eT8⟩ : ∃ z, z = T7 ++ [(q74, .inl (cs.1, 60, .inl fun _ => 0))] := ⟨_, rfl⟩
  have hW : Wn D cs A ((h0, .inr (0, [.null, .null, .null, .ref q5, .int 0, .int (-1), .ref q23, .ref q31, .ref q39, .ref q47, .ref q55, .ref q64, .ref q74, .null, .null, .null])) :: (T7 ++ [(q74, .inl (cs.1, 60, .inl fun _ => 0))])) s H locs := hW
  rw [← eT8] at hW
  refine lv_aload_n hC.1 hC.2.1 dk_Day_0_79 rfl (lv_at hl 0 rfl) ?_
  refine lv_bipush (v := 6) hC.1 hC.2.1 dk_Day_0_80 (by decide) ?_
  refine lv_sipush (v := 200) hC.1 hC.2.1 dk_Day_0_82 (by decide) ?_
  refine kr_grid hC hW (w1 := 305) (N := 6) (K := 200) (by decide +kernel) (by decide) (by decide) (by decide) (by decide) (by decide) (by decide) (by exact Nat.le_of_ble_eq_true rfl) (by exact Nat.le_of_ble_eq_true rfl) dk_Day_0_85 (fun q85 H hW => ?_)
  refine kr_putF (b := 13) (w1 := 374) (v := .ref q85) (ty := (.array (.array .int))) (nm := "rider") (ds := "[[I") (N := 16) hC hin hW rfl (by decide +kernel) (by decide) (by decide +kernel) (by decide +kernel) rfl rfl (by exact Nat.le_of_ble_eq_true rfl) dk_Day_0_89 (fun H locs hW => ?_)
  obtain ⟨T9, eT9⟩ : ∃ z, z = T8 ++ grW cs q85 6 200 := ⟨_, rfl⟩
  have hW : Wn D cs A ((h0, .inr (0, [.null, .null, .null, .ref q5, .int 0, .int (-1), .ref q23, .ref q31, .ref q39, .ref q47, .ref q55, .ref q64, .ref q74, .ref q85, .null, .null])) :: (T8 ++ grW cs q85 6 200)) s H locs := hW
  rw [← eT9] at hW
  refine lv_aload_n hC.1 hC.2.1 dk_Day_0_92 rfl (lv_at hl 0 rfl) ?_
  refine lv_sipush (v := 200) hC.1 hC.2.1 dk_Day_0_93 (by decide) ?_
  refine kr_newI hC hW (N := 200) mw_ai (by decide) (by decide) (by decide) (by exact Nat.le_of_ble_eq_true rfl) (by exact Nat.le_of_ble_eq_true rfl) dk_Day_0_96 (fun q96 H hW => ?_)
  refine kr_putF (b := 14) (w1 := 376) (v := .ref q96) (ty := (.array .int)) (nm := "rideEnds") (ds := "[I") (N := 16) hC hin hW rfl (by decide +kernel) (by decide) (by decide +kernel) (by decide +kernel) rfl rfl (by exact Nat.le_of_ble_eq_true rfl) dk_Day_0_98 (fun H locs hW => ?_)
  obtain ⟨T10, eT10⟩ : ∃ z, z = T9 ++ [(q96, .inl (cs.1, 200, .inl fun _ => 0))] := ⟨_, rfl⟩
  have hW : Wn D cs A ((h0, .inr (0, [.null, .null, .null, .ref q5, .int 0, .int (-1), .ref q23, .ref q31, .ref q39, .ref q47, .ref q55, .ref q64, .ref q74, .ref q85, .ref q96, .null])) :: (T9 ++ [(q96, .inl (cs.1, 200, .inl fun _ => 0))])) s H locs := hW
  rw [← eT10] at hW
  refine lv_aload_n hC.1 hC.2.1 dk_Day_0_101 rfl (lv_at hl 0 rfl) ?_
  refine lv_bipush (v := 7) hC.1 hC.2.1 dk_Day_0_102 (by decide) ?_
  refine kr_newI hC hW (N := 7) mw_ai (by decide) (by decide) (by decide) (by exact Nat.le_of_ble_eq_true rfl) (by exact Nat.le_of_ble_eq_true rfl) dk_Day_0_104 (fun q104 H hW => ?_)
  refine kr_putF (b := 15) (w1 := 377) (v := .ref q104) (ty := (.array .int)) (nm := "names") (ds := "[I") (N := 16) hC hin hW rfl (by decide +kernel) (by decide) (by decide +kernel) (by decide +kernel) rfl rfl (by exact Nat.le_of_ble_eq_true rfl) dk_Day_0_106 (fun H locs hW => ?_)
  obtain ⟨T11, eT11⟩ : ∃ z, z = T10 ++ [(q104, .inl (cs.1, 7, .inl fun _ => 0))] := ⟨_, rfl⟩
  have hW : Wn D cs A ((h0, .inr (0, [.null, .null, .null, .ref q5, .int 0, .int (-1), .ref q23, .ref q31, .ref q39, .ref q47, .ref q55, .ref q64, .ref q74, .ref q85, .ref q96, .ref q104])) :: (T10 ++ [(q104, .inl (cs.1, 7, .inl fun _ => 0))])) s H locs := hW
  rw [← eT11] at hW
  refine lv_aload_n hC.1 hC.2.1 dk_Day_0_109 rfl (lv_at hl 0 rfl) ?_
  refine lv_aload_n hC.1 hC.2.1 dk_Day_0_110 rfl (lv_at hl 1 rfl) ?_
  refine kr_putF (b := 0) (w1 := 355) (v := .ref t0) (ty := (.object "BikeTown$Told")) (nm := "told") (ds := "LBikeTown$Told;") (N := 16) hC hin hW rfl (by decide +kernel) (by decide) (by decide +kernel) (by decide +kernel) rfl rfl (by exact Nat.le_of_ble_eq_true rfl) dk_Day_0_111 (fun H locs hW => ?_)
  have hW : Wn D cs A ((h0, .inr (0, [.ref t0, .null, .null, .ref q5, .int 0, .int (-1), .ref q23, .ref q31, .ref q39, .ref q47, .ref q55, .ref q64, .ref q74, .ref q85, .ref q96, .ref q104])) :: T11) s H locs := hW
  refine lv_aload_n hC.1 hC.2.1 dk_Day_0_114 rfl (lv_at hl 0 rfl) ?_
  refine lv_aload_n hC.1 hC.2.1 dk_Day_0_115 rfl (lv_at hl 2 rfl) ?_
  refine kr_putF (b := 1) (w1 := 356) (v := .ref r0) (ty := (.object "BikeTown$Rules")) (nm := "rules") (ds := "LBikeTown$Rules;") (N := 16) hC hin hW rfl (by decide +kernel) (by decide) (by decide +kernel) (by decide +kernel) rfl rfl (by exact Nat.le_of_ble_eq_true rfl) dk_Day_0_116 (fun H locs hW => ?_)
  have hW : Wn D cs A ((h0, .inr (0, [.ref t0, .ref r0, .null, .ref q5, .int 0, .int (-1), .ref q23, .ref q31, .ref q39, .ref q47, .ref q55, .ref q64, .ref q74, .ref q85, .ref q96, .ref q104])) :: T11) s H locs := hW
  refine lv_aload_n hC.1 hC.2.1 dk_Day_0_119 rfl (lv_at hl 0 rfl) ?_
  refine kr_obj hC hW (ci := 2) (w1 := 306) (w2 := 307) (w3 := 86) (N := 9) rfl tyX2 tyX2_ok (by decide +kernel) (by decide +kernel) (by decide +kernel) (by exact Nat.le_of_ble_eq_true rfl) (by exact Nat.le_of_ble_eq_true rfl) dk_Day_0_120 (fun q120 H hW => ?_)
  refine lv_dup hC.1 hC.2.1 dk_Day_0_123 rfl ?_
  refine lv_iload_n hC.1 hC.2.1 dk_Day_0_124 rfl (lv_at hl 3 rfl) ?_
  refine kr_call (rest := [.ref q120, .ref h0]) hC hW (k_Diary_1 l D cs q120 H.size) (wc := 310) (wi := 86) (wm := 309) (wl := 308) (n := 1) (by decide +kernel) (by decide +kernel) (by decide +kernel) (.inl (by decide +kernel)) rfl (by decide +kernel) ⟨(by exact Nat.le_of_ble_eq_true rfl), (by exact Nat.le_of_ble_eq_true rfl)⟩ rfl hl.1 rfl (by exact Nat.le_of_ble_eq_true rfl) dk_Day_0_125 (by exact Nat.le_of_ble_eq_true rfl) (by exact Nat.le_of_ble_eq_true rfl) (fun w125 H locs hp125 hW => ?_)
  obtain ⟨a125, g125, rfl⟩ := hp125
  obtain ⟨T12, eT12⟩ : ∃ z, z = T11 ++ cnL Lk_Diary_1 cs a125 sC := ⟨_, rfl⟩
  rw [List.cons_append, ← eT12] at hW
  refine kr_putF (b := 2) (w1 := 357) (v := .ref q120) (ty := (.object "BikeTown$Diary")) (nm := "diary") (ds := "LBikeTown$Diary;") (N := 16) hC hin hW rfl (by decide +kernel) (by decide) (by decide +kernel) (by decide +kernel) rfl rfl (by exact Nat.le_of_ble_eq_true rfl) dk_Day_0_128 (fun H locs hW => ?_)
  have hW : Wn D cs A ((h0, .inr (0, [.ref t0, .ref r0, .ref q120, .ref q5, .int 0, .int (-1), .ref q23, .ref q31, .ref q39, .ref q47, .ref q55, .ref q64, .ref q74, .ref q85, .ref q96, .ref q104])) :: T12) s H locs := hW
  have hE : ((h0, .inr (0, [.ref t0, .ref r0, .ref q120, .ref q5, .int 0, .int (-1), .ref q23, .ref q31, .ref q39, .ref q47, .ref q55, .ref q64, .ref q74, .ref q85, .ref q96, .ref q104])) :: T12 : va_W) = cnL Lk_Day_1 cs (fun k d i => bif Nat.beq k 1 then t0 else bif Nat.beq k 12 then r0 else (fun k d i => bif Nat.beq k 26 then h0 else bif Nat.beq k 27 then gdA q23 i else bif Nat.beq k 28 then gdA q31 i else bif Nat.beq k 29 then gdA q39 i else bif Nat.beq k 30 then gdA q47 i else bif Nat.beq k 31 then gdA q55 i else bif Nat.beq k 32 then gdA q64 i else bif Nat.beq k 33 then gdA q74 i else bif Nat.beq k 34 then gdA q85 i else bif Nat.beq k 35 then gdA q96 i else bif Nat.beq k 36 then gdA q104 i else bif Nat.ble 44 k then a9 k d i else a125 k d i) k d i) sC := by
    subst eT1 eT2 eT3 eT4 eT5 eT6 eT7 eT8 eT9 eT10 eT11 eT12
    rw [← g9, ← g125]
    rfl
  refine W.widen (k := 84) (n := 3062) (by exact Nat.le_of_ble_eq_true rfl) (by exact Nat.le_of_ble_eq_true rfl) ?_
  exact W.vret hC.1 hC.2.1 hr (fun t ht hWm => ⟨⟨_, rfl, ⟨fun k d i => bif Nat.beq k 26 then h0 else bif Nat.beq k 27 then gdA q23 i else bif Nat.beq k 28 then gdA q31 i else bif Nat.beq k 29 then gdA q39 i else bif Nat.beq k 30 then gdA q47 i else bif Nat.beq k 31 then gdA q55 i else bif Nat.beq k 32 then gdA q64 i else bif Nat.beq k 33 then gdA q74 i else bif Nat.beq k 34 then gdA q85 i else bif Nat.beq k 35 then gdA q96 i else bif Nat.beq k 36 then gdA q104 i else bif Nat.ble 44 k then a9 k d i else a125 k d i, rfl, hE⟩, by rw [ht]; exact hW.1.1, va_K.moved hWm.alike hW.1.2.1.1, hW.1.2.2⟩, hW.2.1.F ht⟩) hW.2.1.2.2 dk_Day_0_131
