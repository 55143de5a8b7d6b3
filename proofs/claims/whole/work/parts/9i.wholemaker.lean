/-! The maker of the whole: the class's first world. -/
theorem dk_BikeTown_0 : decode prog_1_method_1_code 0 = .ok (.aload_n 0, 1) := by decide +kernel
theorem dk_BikeTown_1 : decode prog_1_method_1_code 1 = .ok (.invokespecial 1, 3) := by decide +kernel
theorem dk_BikeTown_4 : decode prog_1_method_1_code 4 = .ok (.new 7, 3) := by decide +kernel
theorem dk_BikeTown_7 : decode prog_1_method_1_code 7 = .ok (.dup, 1) := by decide +kernel
theorem dk_BikeTown_8 : decode prog_1_method_1_code 8 = .ok (.invokespecial 9, 3) := by decide +kernel
theorem dk_BikeTown_11 : decode prog_1_method_1_code 11 = .ok (.astore_n 1, 1) := by decide +kernel
theorem dk_BikeTown_12 : decode prog_1_method_1_code 12 = .ok (.new 10, 3) := by decide +kernel
theorem dk_BikeTown_15 : decode prog_1_method_1_code 15 = .ok (.dup, 1) := by decide +kernel
theorem dk_BikeTown_16 : decode prog_1_method_1_code 16 = .ok (.invokespecial 12, 3) := by decide +kernel
theorem dk_BikeTown_19 : decode prog_1_method_1_code 19 = .ok (.astore_n 2, 1) := by decide +kernel
theorem dk_BikeTown_20 : decode prog_1_method_1_code 20 = .ok (.aload_n 0, 1) := by decide +kernel
theorem dk_BikeTown_21 : decode prog_1_method_1_code 21 = .ok (.aload_n 1, 1) := by decide +kernel
theorem dk_BikeTown_22 : decode prog_1_method_1_code 22 = .ok (.putfield 13, 3) := by decide +kernel
theorem dk_BikeTown_25 : decode prog_1_method_1_code 25 = .ok (.aload_n 0, 1) := by decide +kernel
theorem dk_BikeTown_26 : decode prog_1_method_1_code 26 = .ok (.aload_n 2, 1) := by decide +kernel
theorem dk_BikeTown_27 : decode prog_1_method_1_code 27 = .ok (.putfield 19, 3) := by decide +kernel
theorem dk_BikeTown_30 : decode prog_1_method_1_code 30 = .ok (.aload_n 0, 1) := by decide +kernel
theorem dk_BikeTown_31 : decode prog_1_method_1_code 31 = .ok (.new 23, 3) := by decide +kernel
theorem dk_BikeTown_34 : decode prog_1_method_1_code 34 = .ok (.dup, 1) := by decide +kernel
theorem dk_BikeTown_35 : decode prog_1_method_1_code 35 = .ok (.invokespecial 25, 3) := by decide +kernel
theorem dk_BikeTown_38 : decode prog_1_method_1_code 38 = .ok (.putfield 26, 3) := by decide +kernel
theorem dk_BikeTown_41 : decode prog_1_method_1_code 41 = .ok (.aload_n 0, 1) := by decide +kernel
theorem dk_BikeTown_42 : decode prog_1_method_1_code 42 = .ok (.new 30, 3) := by decide +kernel
theorem dk_BikeTown_45 : decode prog_1_method_1_code 45 = .ok (.dup, 1) := by decide +kernel
theorem dk_BikeTown_46 : decode prog_1_method_1_code 46 = .ok (.aload_n 1, 1) := by decide +kernel
theorem dk_BikeTown_47 : decode prog_1_method_1_code 47 = .ok (.aload_n 2, 1) := by decide +kernel
theorem dk_BikeTown_48 : decode prog_1_method_1_code 48 = .ok (.sipush 4000, 3) := by decide +kernel
theorem dk_BikeTown_51 : decode prog_1_method_1_code 51 = .ok (.invokespecial 32, 3) := by decide +kernel
theorem dk_BikeTown_54 : decode prog_1_method_1_code 54 = .ok (.putfield 35, 3) := by decide +kernel
theorem dk_BikeTown_57 : decode prog_1_method_1_code 57 = .ok (.aload_n 0, 1) := by decide +kernel
theorem dk_BikeTown_58 : decode prog_1_method_1_code 58 = .ok (.new 30, 3) := by decide +kernel
theorem dk_BikeTown_61 : decode prog_1_method_1_code 61 = .ok (.dup, 1) := by decide +kernel
theorem dk_BikeTown_62 : decode prog_1_method_1_code 62 = .ok (.aload_n 1, 1) := by decide +kernel
theorem dk_BikeTown_63 : decode prog_1_method_1_code 63 = .ok (.aload_n 2, 1) := by decide +kernel
theorem dk_BikeTown_64 : decode prog_1_method_1_code 64 = .ok (.iconst 0, 1) := by decide +kernel
theorem dk_BikeTown_65 : decode prog_1_method_1_code 65 = .ok (.invokespecial 32, 3) := by decide +kernel
theorem dk_BikeTown_68 : decode prog_1_method_1_code 68 = .ok (.putfield 39, 3) := by decide +kernel
theorem dk_BikeTown_71 : decode prog_1_method_1_code 71 = .ok (.aload_n 0, 1) := by decide +kernel
theorem dk_BikeTown_72 : decode prog_1_method_1_code 72 = .ok (.new 42, 3) := by decide +kernel
theorem dk_BikeTown_75 : decode prog_1_method_1_code 75 = .ok (.dup, 1) := by decide +kernel
theorem dk_BikeTown_76 : decode prog_1_method_1_code 76 = .ok (.invokespecial 44, 3) := by decide +kernel
theorem dk_BikeTown_79 : decode prog_1_method_1_code 79 = .ok (.putfield 45, 3) := by decide +kernel
theorem dk_BikeTown_82 : decode prog_1_method_1_code 82 = .ok (.aload_n 0, 1) := by decide +kernel
theorem dk_BikeTown_83 : decode prog_1_method_1_code 83 = .ok (.new 49, 3) := by decide +kernel
theorem dk_BikeTown_86 : decode prog_1_method_1_code 86 = .ok (.dup, 1) := by decide +kernel
theorem dk_BikeTown_87 : decode prog_1_method_1_code 87 = .ok (.invokespecial 51, 3) := by decide +kernel
theorem dk_BikeTown_90 : decode prog_1_method_1_code 90 = .ok (.putfield 52, 3) := by decide +kernel
theorem dk_BikeTown_93 : decode prog_1_method_1_code 93 = .ok (.aload_n 0, 1) := by decide +kernel
theorem dk_BikeTown_94 : decode prog_1_method_1_code 94 = .ok (.new 56, 3) := by decide +kernel
theorem dk_BikeTown_97 : decode prog_1_method_1_code 97 = .ok (.dup, 1) := by decide +kernel
theorem dk_BikeTown_98 : decode prog_1_method_1_code 98 = .ok (.invokespecial 58, 3) := by decide +kernel
theorem dk_BikeTown_101 : decode prog_1_method_1_code 101 = .ok (.putfield 59, 3) := by decide +kernel
theorem dk_BikeTown_104 : decode prog_1_method_1_code 104 = .ok (.aload_n 0, 1) := by decide +kernel
theorem dk_BikeTown_105 : decode prog_1_method_1_code 105 = .ok (.new 63, 3) := by decide +kernel
theorem dk_BikeTown_108 : decode prog_1_method_1_code 108 = .ok (.dup, 1) := by decide +kernel
theorem dk_BikeTown_109 : decode prog_1_method_1_code 109 = .ok (.invokespecial 65, 3) := by decide +kernel
theorem dk_BikeTown_112 : decode prog_1_method_1_code 112 = .ok (.putfield 66, 3) := by decide +kernel
theorem dk_BikeTown_115 : decode prog_1_method_1_code 115 = .ok (.aload_n 0, 1) := by decide +kernel
theorem dk_BikeTown_116 : decode prog_1_method_1_code 116 = .ok (.new 70, 3) := by decide +kernel
theorem dk_BikeTown_119 : decode prog_1_method_1_code 119 = .ok (.dup, 1) := by decide +kernel
theorem dk_BikeTown_120 : decode prog_1_method_1_code 120 = .ok (.invokespecial 72, 3) := by decide +kernel
theorem dk_BikeTown_123 : decode prog_1_method_1_code 123 = .ok (.putfield 73, 3) := by decide +kernel
theorem dk_BikeTown_126 : decode prog_1_method_1_code 126 = .ok (.return_, 1) := by decide +kernel
def Lk_BikeTown : List Lb := (0, false, 0) :: ((((((((((([] : List Lb) ++ Lk_Told) ++ Lk_Rules) ++ Lk_Hands) ++ Lk_Day_0) ++ Lk_Day_1) ++ Lk_Days) ++ Lk_Round) ++ Lk_Houses) ++ Lk_Sites) ++ Lk_Trials)
theorem k_BikeTown (l : Launch) (D : va_G) (cs : Cs) (h0 sz : Nat) : Kt l ⟨"BikeTown", "<init>", "()V"⟩ prog_1_method_1_code 3 [] D cs h0 sz (11, dfS 10 tyX11) 3 248 36949 (fun w1 => ∃ a : Ad, a 0 false 0 = h0 ∧ w1 = cnL Lk_BikeTown cs a sC) := by
  refine Met.ofW (cc := prog_1_method_1_code) (maxL := 3) (ret := none) (by decide) rfl ?_
  intro p e s m args below meth c s₁ B hml hv
  obtain ⟨rfl, hsz, hP, hK, hD0⟩ := hv
  subst hsz
  have hlocks := B.notSynchronized
  have hr := B.returns
  have hin : meth.name = "<init>" := (name_of_methodNamed B.named B.method).1
  have hts := atoms_spec (ws := .code ⟨"BikeTown", "<init>", "()V"⟩ prog_1_method_1_code 3 none :: lw_g) B.pre
  have hC : Cw "BikeTown" prog_1_method_1_code 3 p s m (.ref h0 :: []).toArray c := ⟨B.exec, B.bytes, hml, findClass_of_methodNamed B.named, fun w hw => hts w (List.mem_cons_of_mem _ hw)⟩
  have hD := hD0.self (sz := s.heap.size)
  generalize hAe : va_A [(h0, .inr (11, dfS 10 tyX11))] s.heap.size = A at hD ⊢
  have hW : Wn D cs A ((h0, .inr (11, [.null, .null, .null, .null, .null, .null, .null, .null, .null, .null])) :: ([] : va_W)) s s.heap [] := ⟨⟨hP, hK, hD⟩, va_S.rf, fun q h => by rw [← hAe]; exact Or.inr h⟩
  have hl := lv_entry (.ref h0 :: []) (n := 3) (Nat.le_of_ble_eq_true rfl)
  rw [lg_entry_eq]
  generalize (lg_sl (.ref h0 :: []) ++ List.replicate (3 - (lg_sl (.ref h0 :: [])).length) Slot.unset).toArray = ls at hl ⊢
  have hl : lv_has ls 3 [(0, .ref h0)] := hl
  refine lv_aload_n hC.1 hC.2.1 dk_BikeTown_0 rfl (lv_at hl 0 rfl) ?_
  refine kr_super hC (w1 := 100) (by decide +kernel) hl.1 (by exact Nat.le_of_ble_eq_true rfl) (by exact Nat.le_of_ble_eq_true rfl) dk_BikeTown_1 ?_
  refine kr_obj hC hW (ci := 8) (w1 := 103) (w2 := 104) (w3 := 80) (N := 15) rfl tyX8 tyX8_ok (by decide +kernel) (by decide +kernel) (by decide +kernel) (by exact Nat.le_of_ble_eq_true rfl) (by exact Nat.le_of_ble_eq_true rfl) dk_BikeTown_4 (fun q4 H hW => ?_)
  refine lv_dup hC.1 hC.2.1 dk_BikeTown_7 rfl ?_
  refine kr_call (rest := [.ref q4]) hC hW (k_Told l D cs q4 H.size) (wc := 107) (wi := 80) (wm := 106) (wl := 105) (n := 0) (by decide +kernel) (by decide +kernel) (by decide +kernel) (.inl (by decide +kernel)) rfl (by decide +kernel) ⟨(by exact Nat.le_of_ble_eq_true rfl), (by exact Nat.le_of_ble_eq_true rfl)⟩ rfl hl.1 rfl (by exact Nat.le_of_ble_eq_true rfl) dk_BikeTown_8 (by exact Nat.le_of_ble_eq_true rfl) (by exact Nat.le_of_ble_eq_true rfl) (fun w8 H locs hp8 hW => ?_)
  obtain ⟨a8, g8, rfl⟩ := hp8
  obtain ⟨T1, eT1⟩ : ∃ z, z = ([] : va_W) ++ cnL Lk_Told cs a8 sC := ⟨_, rfl⟩
  rw [List.cons_append, ← eT1] at hW
  refine lv_astore_n hC.1 hC.2.1 dk_BikeTown_11 rfl hl (by decide) rfl (fun ls hl => ?_)
  have hl : lv_has ls 3 [(1, .ref q4), (0, .ref h0)] := hl
  refine kr_obj hC hW (ci := 6) (w1 := 182) (w2 := 183) (w3 := 82) (N := 11) rfl tyX6 tyX6_ok (by decide +kernel) (by decide +kernel) (by decide +kernel) (by exact Nat.le_of_ble_eq_true rfl) (by exact Nat.le_of_ble_eq_true rfl) dk_BikeTown_12 (fun q12 H hW => ?_)
  refine lv_dup hC.1 hC.2.1 dk_BikeTown_15 rfl ?_
  refine kr_call (rest := [.ref q12]) hC hW (k_Rules l D cs q12 H.size) (wc := 186) (wi := 82) (wm := 185) (wl := 184) (n := 0) (by decide +kernel) (by decide +kernel) (by decide +kernel) (.inr ⟨"BikeTown", by decide +kernel⟩) rfl (by decide +kernel) ⟨(by exact Nat.le_of_ble_eq_true rfl), (by exact Nat.le_of_ble_eq_true rfl)⟩ rfl hl.1 rfl (by exact Nat.le_of_ble_eq_true rfl) dk_BikeTown_16 (by exact Nat.le_of_ble_eq_true rfl) (by exact Nat.le_of_ble_eq_true rfl) (fun w16 H locs hp16 hW => ?_)
  obtain ⟨a16, g16, rfl⟩ := hp16
  obtain ⟨T2, eT2⟩ : ∃ z, z = T1 ++ cnL Lk_Rules cs a16 sC := ⟨_, rfl⟩
  rw [List.cons_append, ← eT2] at hW
  refine lv_astore_n hC.1 hC.2.1 dk_BikeTown_19 rfl hl (by decide) rfl (fun ls hl => ?_)
  have hl : lv_has ls 3 [(2, .ref q12), (1, .ref q4), (0, .ref h0)] := hl
  refine lv_aload_n hC.1 hC.2.1 dk_BikeTown_20 rfl (lv_at hl 2 rfl) ?_
  refine lv_aload_n hC.1 hC.2.1 dk_BikeTown_21 rfl (lv_at hl 1 rfl) ?_
  refine kr_putF (b := 0) (w1 := 517) (v := .ref q4) (ty := (.object "BikeTown$Told")) (nm := "told") (ds := "LBikeTown$Told;") (N := 10) hC hin hW rfl (by decide +kernel) (by decide) (by decide +kernel) (by decide +kernel) rfl rfl (by exact Nat.le_of_ble_eq_true rfl) dk_BikeTown_22 (fun H locs hW => ?_)
  have hW : Wn D cs A ((h0, .inr (11, [.ref q4, .null, .null, .null, .null, .null, .null, .null, .null, .null])) :: T2) s H locs := hW
  refine lv_aload_n hC.1 hC.2.1 dk_BikeTown_25 rfl (lv_at hl 2 rfl) ?_
  refine lv_aload_n hC.1 hC.2.1 dk_BikeTown_26 rfl (lv_at hl 0 rfl) ?_
  refine kr_putF (b := 1) (w1 := 518) (v := .ref q12) (ty := (.object "BikeTown$Rules")) (nm := "rules") (ds := "LBikeTown$Rules;") (N := 10) hC hin hW rfl (by decide +kernel) (by decide) (by decide +kernel) (by decide +kernel) rfl rfl (by exact Nat.le_of_ble_eq_true rfl) dk_BikeTown_27 (fun H locs hW => ?_)
  have hW : Wn D cs A ((h0, .inr (11, [.ref q4, .ref q12, .null, .null, .null, .null, .null, .null, .null, .null])) :: T2) s H locs := hW
  refine lv_aload_n hC.1 hC.2.1 dk_BikeTown_30 rfl (lv_at hl 2 rfl) ?_
  refine kr_obj hC hW (ci := 3) (w1 := 231) (w2 := 232) (w3 := 83) (N := 5) rfl tyX3 tyX3_ok (by decide +kernel) (by decide +kernel) (by decide +kernel) (by exact Nat.le_of_ble_eq_true rfl) (by exact Nat.le_of_ble_eq_true rfl) dk_BikeTown_31 (fun q31 H hW => ?_)
  refine lv_dup hC.1 hC.2.1 dk_BikeTown_34 rfl ?_
  refine kr_call (rest := [.ref q31, .ref h0]) hC hW (k_Hands l D cs q31 H.size) (wc := 235) (wi := 83) (wm := 234) (wl := 233) (n := 0) (by decide +kernel) (by decide +kernel) (by decide +kernel) (.inr ⟨"BikeTown", by decide +kernel⟩) rfl (by decide +kernel) ⟨(by exact Nat.le_of_ble_eq_true rfl), (by exact Nat.le_of_ble_eq_true rfl)⟩ rfl hl.1 rfl (by exact Nat.le_of_ble_eq_true rfl) dk_BikeTown_35 (by exact Nat.le_of_ble_eq_true rfl) (by exact Nat.le_of_ble_eq_true rfl) (fun w35 H locs hp35 hW => ?_)
  obtain ⟨a35, g35, rfl⟩ := hp35
  obtain ⟨T3, eT3⟩ : ∃ z, z = T2 ++ cnL Lk_Hands cs a35 sC := ⟨_, rfl⟩
  rw [List.cons_append, ← eT3] at hW
  refine kr_putF (b := 2) (w1 := 519) (v := .ref q31) (ty := (.object "BikeTown$Hands")) (nm := "hands") (ds := "LBikeTown$Hands;") (N := 10) hC hin hW rfl (by decide +kernel) (by decide) (by decide +kernel) (by decide +kernel) rfl rfl (by exact Nat.le_of_ble_eq_true rfl) dk_BikeTown_38 (fun H locs hW => ?_)
  have hW : Wn D cs A ((h0, .inr (11, [.ref q4, .ref q12, .ref q31, .null, .null, .null, .null, .null, .null, .null])) :: T3) s H locs := hW
  refine lv_aload_n hC.1 hC.2.1 dk_BikeTown_41 rfl (lv_at hl 2 rfl) ?_
  refine kr_obj hC hW (ci := 0) (w1 := 259) (w2 := 260) (w3 := 84) (N := 16) rfl tyX0 tyX0_ok (by decide +kernel) (by decide +kernel) (by decide +kernel) (by exact Nat.le_of_ble_eq_true rfl) (by exact Nat.le_of_ble_eq_true rfl) dk_BikeTown_42 (fun q42 H hW => ?_)
  refine lv_dup hC.1 hC.2.1 dk_BikeTown_45 rfl ?_
  refine lv_aload_n hC.1 hC.2.1 dk_BikeTown_46 rfl (lv_at hl 1 rfl) ?_
  refine lv_aload_n hC.1 hC.2.1 dk_BikeTown_47 rfl (lv_at hl 0 rfl) ?_
  refine lv_sipush (v := 4000) hC.1 hC.2.1 dk_BikeTown_48 (by decide) ?_
  refine kr_call (rest := [.ref q42, .ref h0]) hC hW (k_Day_0 l D cs q42 H.size q4 q12) (wc := 263) (wi := 84) (wm := 262) (wl := 261) (n := 3) (by decide +kernel) (by decide +kernel) (by decide +kernel) (.inl (by decide +kernel)) rfl (by decide +kernel) ⟨(by exact Nat.le_of_ble_eq_true rfl), (by exact Nat.le_of_ble_eq_true rfl)⟩ rfl hl.1 rfl (by exact Nat.le_of_ble_eq_true rfl) dk_BikeTown_51 (by exact Nat.le_of_ble_eq_true rfl) (by exact Nat.le_of_ble_eq_true rfl) (fun w51 H locs hp51 hW => ?_)
  obtain ⟨a51, g51, rfl⟩ := hp51
  obtain ⟨T4, eT4⟩ : ∃ z, z = T3 ++ cnL Lk_Day_0 cs (fun k d i => bif Nat.beq k 1 then q4 else bif Nat.beq k 12 then q12 else a51 k d i) sC := ⟨_, rfl⟩
  rw [List.cons_append, ← eT4] at hW
  refine kr_putF (b := 3) (w1 := 520) (v := .ref q42) (ty := (.object "BikeTown$Day")) (nm := "day") (ds := "LBikeTown$Day;") (N := 10) hC hin hW rfl (by decide +kernel) (by decide) (by decide +kernel) (by decide +kernel) rfl rfl (by exact Nat.le_of_ble_eq_true rfl) dk_BikeTown_54 (fun H locs hW => ?_)
  have hW : Wn D cs A ((h0, .inr (11, [.ref q4, .ref q12, .ref q31, .ref q42, .null, .null, .null, .null, .null, .null])) :: T4) s H locs := hW
  refine lv_aload_n hC.1 hC.2.1 dk_BikeTown_57 rfl (lv_at hl 2 rfl) ?_
  refine kr_obj hC hW (ci := 0) (w1 := 259) (w2 := 260) (w3 := 84) (N := 16) rfl tyX0 tyX0_ok (by decide +kernel) (by decide +kernel) (by decide +kernel) (by exact Nat.le_of_ble_eq_true rfl) (by exact Nat.le_of_ble_eq_true rfl) dk_BikeTown_58 (fun q58 H hW => ?_)
  refine lv_dup hC.1 hC.2.1 dk_BikeTown_61 rfl ?_
  refine lv_aload_n hC.1 hC.2.1 dk_BikeTown_62 rfl (lv_at hl 1 rfl) ?_
  refine lv_aload_n hC.1 hC.2.1 dk_BikeTown_63 rfl (lv_at hl 0 rfl) ?_
  refine lv_iconst (v := 0) hC.1 hC.2.1 dk_BikeTown_64 (by decide) ?_
  refine kr_call (rest := [.ref q58, .ref h0]) hC hW (k_Day_1 l D cs q58 H.size q4 q12) (wc := 263) (wi := 84) (wm := 262) (wl := 261) (n := 3) (by decide +kernel) (by decide +kernel) (by decide +kernel) (.inl (by decide +kernel)) rfl (by decide +kernel) ⟨(by exact Nat.le_of_ble_eq_true rfl), (by exact Nat.le_of_ble_eq_true rfl)⟩ rfl hl.1 rfl (by exact Nat.le_of_ble_eq_true rfl) dk_BikeTown_65 (by exact Nat.le_of_ble_eq_true rfl) (by exact Nat.le_of_ble_eq_true rfl) (fun w65 H locs hp65 hW => ?_)
  obtain ⟨a65, g65, rfl⟩ := hp65
  obtain ⟨T5, eT5⟩ : ∃ z, z = T4 ++ cnL Lk_Day_1 cs (fun k d i => bif Nat.beq k 1 then q4 else bif Nat.beq k 12 then q12 else a65 k d i) sC := ⟨_, rfl⟩
  rw [List.cons_append, ← eT5] at hW
  refine kr_putF (b := 4) (w1 := 521) (v := .ref q58) (ty := (.object "BikeTown$Day")) (nm := "again") (ds := "LBikeTown$Day;") (N := 10) hC hin hW rfl (by decide +kernel) (by decide) (by decide +kernel) (by decide +kernel) rfl rfl (by exact Nat.le_of_ble_eq_true rfl) dk_BikeTown_68 (fun H locs hW => ?_)
  have hW : Wn D cs A ((h0, .inr (11, [.ref q4, .ref q12, .ref q31, .ref q42, .ref q58, .null, .null, .null, .null, .null])) :: T5) s H locs := hW
  refine lv_aload_n hC.1 hC.2.1 dk_BikeTown_71 rfl (lv_at hl 2 rfl) ?_
  refine kr_obj hC hW (ci := 1) (w1 := 411) (w2 := 412) (w3 := 88) (N := 3) rfl tyX1 tyX1_ok (by decide +kernel) (by decide +kernel) (by decide +kernel) (by exact Nat.le_of_ble_eq_true rfl) (by exact Nat.le_of_ble_eq_true rfl) dk_BikeTown_72 (fun q72 H hW => ?_)
  refine lv_dup hC.1 hC.2.1 dk_BikeTown_75 rfl ?_
  refine kr_call (rest := [.ref q72, .ref h0]) hC hW (k_Days l D cs q72 H.size) (wc := 415) (wi := 88) (wm := 414) (wl := 413) (n := 0) (by decide +kernel) (by decide +kernel) (by decide +kernel) (.inr ⟨"BikeTown", by decide +kernel⟩) rfl (by decide +kernel) ⟨(by exact Nat.le_of_ble_eq_true rfl), (by exact Nat.le_of_ble_eq_true rfl)⟩ rfl hl.1 rfl (by exact Nat.le_of_ble_eq_true rfl) dk_BikeTown_76 (by exact Nat.le_of_ble_eq_true rfl) (by exact Nat.le_of_ble_eq_true rfl) (fun w76 H locs hp76 hW => ?_)
  obtain ⟨a76, g76, rfl⟩ := hp76
  obtain ⟨T6, eT6⟩ : ∃ z, z = T5 ++ cnL Lk_Days cs a76 sC := ⟨_, rfl⟩
  rw [List.cons_append, ← eT6] at hW
  refine kr_putF (b := 5) (w1 := 522) (v := .ref q72) (ty := (.object "BikeTown$Days")) (nm := "days") (ds := "LBikeTown$Days;") (N := 10) hC hin hW rfl (by decide +kernel) (by decide) (by decide +kernel) (by decide +kernel) rfl rfl (by exact Nat.le_of_ble_eq_true rfl) dk_BikeTown_79 (fun H locs hW => ?_)
  have hW : Wn D cs A ((h0, .inr (11, [.ref q4, .ref q12, .ref q31, .ref q42, .ref q58, .ref q72, .null, .null, .null, .null])) :: T6) s H locs := hW
  refine lv_aload_n hC.1 hC.2.1 dk_BikeTown_82 rfl (lv_at hl 2 rfl) ?_
  refine kr_obj hC hW (ci := 5) (w1 := 429) (w2 := 430) (w3 := 89) (N := 5) rfl tyX5 tyX5_ok (by decide +kernel) (by decide +kernel) (by decide +kernel) (by exact Nat.le_of_ble_eq_true rfl) (by exact Nat.le_of_ble_eq_true rfl) dk_BikeTown_83 (fun q83 H hW => ?_)
  refine lv_dup hC.1 hC.2.1 dk_BikeTown_86 rfl ?_
  refine kr_call (rest := [.ref q83, .ref h0]) hC hW (k_Round l D cs q83 H.size) (wc := 433) (wi := 89) (wm := 432) (wl := 431) (n := 0) (by decide +kernel) (by decide +kernel) (by decide +kernel) (.inr ⟨"BikeTown", by decide +kernel⟩) rfl (by decide +kernel) ⟨(by exact Nat.le_of_ble_eq_true rfl), (by exact Nat.le_of_ble_eq_true rfl)⟩ rfl hl.1 rfl (by exact Nat.le_of_ble_eq_true rfl) dk_BikeTown_87 (by exact Nat.le_of_ble_eq_true rfl) (by exact Nat.le_of_ble_eq_true rfl) (fun w87 H locs hp87 hW => ?_)
  obtain ⟨a87, g87, rfl⟩ := hp87
  obtain ⟨T7, eT7⟩ : ∃ z, z = T6 ++ cnL Lk_Round cs a87 sC := ⟨_, rfl⟩
  rw [List.cons_append, ← eT7] at hW
  refine kr_putF (b := 6) (w1 := 523) (v := .ref q83) (ty := (.object "BikeTown$Round")) (nm := "tour") (ds := "LBikeTown$Round;") (N := 10) hC hin hW rfl (by decide +kernel) (by decide) (by decide +kernel) (by decide +kernel) rfl rfl (by exact Nat.le_of_ble_eq_true rfl) dk_BikeTown_90 (fun H locs hW => ?_)
  have hW : Wn D cs A ((h0, .inr (11, [.ref q4, .ref q12, .ref q31, .ref q42, .ref q58, .ref q72, .ref q83, .null, .null, .null])) :: T7) s H locs := hW
  refine lv_aload_n hC.1 hC.2.1 dk_BikeTown_93 rfl (lv_at hl 2 rfl) ?_
  refine kr_obj hC hW (ci := 4) (w1 := 452) (w2 := 453) (w3 := 90) (N := 2) rfl tyX4 tyX4_ok (by decide +kernel) (by decide +kernel) (by decide +kernel) (by exact Nat.le_of_ble_eq_true rfl) (by exact Nat.le_of_ble_eq_true rfl) dk_BikeTown_94 (fun q94 H hW => ?_)
  refine lv_dup hC.1 hC.2.1 dk_BikeTown_97 rfl ?_
  refine kr_call (rest := [.ref q94, .ref h0]) hC hW (k_Houses l D cs q94 H.size) (wc := 456) (wi := 90) (wm := 455) (wl := 454) (n := 0) (by decide +kernel) (by decide +kernel) (by decide +kernel) (.inr ⟨"BikeTown", by decide +kernel⟩) rfl (by decide +kernel) ⟨(by exact Nat.le_of_ble_eq_true rfl), (by exact Nat.le_of_ble_eq_true rfl)⟩ rfl hl.1 rfl (by exact Nat.le_of_ble_eq_true rfl) dk_BikeTown_98 (by exact Nat.le_of_ble_eq_true rfl) (by exact Nat.le_of_ble_eq_true rfl) (fun w98 H locs hp98 hW => ?_)
  obtain ⟨a98, g98, rfl⟩ := hp98
  obtain ⟨T8, eT8⟩ : ∃ z, z = T7 ++ cnL Lk_Houses cs a98 sC := ⟨_, rfl⟩
  rw [List.cons_append, ← eT8] at hW
  refine kr_putF (b := 7) (w1 := 524) (v := .ref q94) (ty := (.object "BikeTown$Houses")) (nm := "houses") (ds := "LBikeTown$Houses;") (N := 10) hC hin hW rfl (by decide +kernel) (by decide) (by decide +kernel) (by decide +kernel) rfl rfl (by exact Nat.le_of_ble_eq_true rfl) dk_BikeTown_101 (fun H locs hW => ?_)
  have hW : Wn D cs A ((h0, .inr (11, [.ref q4, .ref q12, .ref q31, .ref q42, .ref q58, .ref q72, .ref q83, .ref q94, .null, .null])) :: T8) s H locs := hW
  refine lv_aload_n hC.1 hC.2.1 dk_BikeTown_104 rfl (lv_at hl 2 rfl) ?_
  refine kr_obj hC hW (ci := 7) (w1 := 467) (w2 := 468) (w3 := 91) (N := 8) rfl tyX7 tyX7_ok (by decide +kernel) (by decide +kernel) (by decide +kernel) (by exact Nat.le_of_ble_eq_true rfl) (by exact Nat.le_of_ble_eq_true rfl) dk_BikeTown_105 (fun q105 H hW => ?_)
  refine lv_dup hC.1 hC.2.1 dk_BikeTown_108 rfl ?_
  refine kr_call (rest := [.ref q105, .ref h0]) hC hW (k_Sites l D cs q105 H.size) (wc := 471) (wi := 91) (wm := 470) (wl := 469) (n := 0) (by decide +kernel) (by decide +kernel) (by decide +kernel) (.inr ⟨"BikeTown", by decide +kernel⟩) rfl (by decide +kernel) ⟨(by exact Nat.le_of_ble_eq_true rfl), (by exact Nat.le_of_ble_eq_true rfl)⟩ rfl hl.1 rfl (by exact Nat.le_of_ble_eq_true rfl) dk_BikeTown_109 (by exact Nat.le_of_ble_eq_true rfl) (by exact Nat.le_of_ble_eq_true rfl) (fun w109 H locs hp109 hW => ?_)
  obtain ⟨a109, g109, rfl⟩ := hp109
  obtain ⟨T9, eT9⟩ : ∃ z, z = T8 ++ cnL Lk_Sites cs a109 sC := ⟨_, rfl⟩
  rw [List.cons_append, ← eT9] at hW
  refine kr_putF (b := 8) (w1 := 525) (v := .ref q105) (ty := (.object "BikeTown$Sites")) (nm := "places") (ds := "LBikeTown$Sites;") (N := 10) hC hin hW rfl (by decide +kernel) (by decide) (by decide +kernel) (by decide +kernel) rfl rfl (by exact Nat.le_of_ble_eq_true rfl) dk_BikeTown_112 (fun H locs hW => ?_)
  have hW : Wn D cs A ((h0, .inr (11, [.ref q4, .ref q12, .ref q31, .ref q42, .ref q58, .ref q72, .ref q83, .ref q94, .ref q105, .null])) :: T9) s H locs := hW
  refine lv_aload_n hC.1 hC.2.1 dk_BikeTown_115 rfl (lv_at hl 2 rfl) ?_
  refine kr_obj hC hW (ci := 9) (w1 := 500) (w2 := 501) (w3 := 92) (N := 3) rfl tyX9 tyX9_ok (by decide +kernel) (by decide +kernel) (by decide +kernel) (by exact Nat.le_of_ble_eq_true rfl) (by exact Nat.le_of_ble_eq_true rfl) dk_BikeTown_116 (fun q116 H hW => ?_)
  refine lv_dup hC.1 hC.2.1 dk_BikeTown_119 rfl ?_
  refine kr_call (rest := [.ref q116, .ref h0]) hC hW (k_Trials l D cs q116 H.size) (wc := 504) (wi := 92) (wm := 503) (wl := 502) (n := 0) (by decide +kernel) (by decide +kernel) (by decide +kernel) (.inr ⟨"BikeTown", by decide +kernel⟩) rfl (by decide +kernel) ⟨(by exact Nat.le_of_ble_eq_true rfl), (by exact Nat.le_of_ble_eq_true rfl)⟩ rfl hl.1 rfl (by exact Nat.le_of_ble_eq_true rfl) dk_BikeTown_120 (by exact Nat.le_of_ble_eq_true rfl) (by exact Nat.le_of_ble_eq_true rfl) (fun w120 H locs hp120 hW => ?_)
  obtain ⟨a120, g120, rfl⟩ := hp120
  obtain ⟨T10, eT10⟩ : ∃ z, z = T9 ++ cnL Lk_Trials cs a120 sC := ⟨_, rfl⟩
  rw [List.cons_append, ← eT10] at hW
  refine kr_putF (b := 9) (w1 := 526) (v := .ref q116) (ty := (.object "BikeTown$Trials")) (nm := "trials") (ds := "LBikeTown$Trials;") (N := 10) hC hin hW rfl (by decide +kernel) (by decide) (by decide +kernel) (by decide +kernel) rfl rfl (by exact Nat.le_of_ble_eq_true rfl) dk_BikeTown_123 (fun H locs hW => ?_)
  have hW : Wn D cs A ((h0, .inr (11, [.ref q4, .ref q12, .ref q31, .ref q42, .ref q58, .ref q72, .ref q83, .ref q94, .ref q105, .ref q116])) :: T10) s H locs := hW
  have hE : ((h0, .inr (11, [.ref q4, .ref q12, .ref q31, .ref q42, .ref q58, .ref q72, .ref q83, .ref q94, .ref q105, .ref q116])) :: T10 : va_W) = cnL Lk_BikeTown cs (fun k d i => bif Nat.beq k 0 then h0 else bif Nat.blt k 12 then a8 k d i else bif Nat.blt k 21 then a16 k d i else bif Nat.blt k 26 then a35 k d i else bif Nat.blt k 48 then (bif d then a65 k d i else a51 k d i) else bif Nat.blt k 51 then a76 k d i else bif Nat.blt k 56 then a87 k d i else bif Nat.blt k 59 then a98 k d i else bif Nat.blt k 66 then a109 k d i else a120 k d i) sC := by
    subst eT1 eT2 eT3 eT4 eT5 eT6 eT7 eT8 eT9 eT10
    rw [← g8, ← g16, ← g35, ← g51, ← g65, ← g76, ← g87, ← g98, ← g109, ← g120]
    unfold Lk_BikeTown
    rw [cnL_cons, cnL_app, cnL_app, cnL_app, cnL_app, cnL_app, cnL_app, cnL_app, cnL_app, cnL_app, cnL_app, cnL_nil]
    rfl
  refine W.widen (k := 248) (n := 36949) (by exact Nat.le_of_ble_eq_true rfl) (by exact Nat.le_of_ble_eq_true rfl) ?_
  exact W.vret hC.1 hC.2.1 hr (fun t ht hWm => ⟨⟨_, rfl, ⟨_, rfl, hE⟩, by rw [ht]; exact hW.1.1, va_K.moved hWm.alike hW.1.2.1.1, hW.1.2.2⟩, hW.2.1.F ht⟩) hW.2.1.2.2 dk_BikeTown_126
