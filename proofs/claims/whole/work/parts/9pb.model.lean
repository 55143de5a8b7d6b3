/-! The model's maker, whole. -/
theorem ex_conc {cs : Cs} {ws : va_W} {a : Ad} {h0 : Nat} (h : ws = conc true cs a tM1) (h2 : a 69 false 0 = h0) : ∃ a : Ad, a 69 false 0 = h0 ∧ ws = conc true cs a tM1 := ⟨a, h2, h⟩
theorem Wn_eq {D : va_G} {cs : Cs} {A : Nat → Prop} {ws ws2 : va_W} {s : State} {H : Heap} {locs : List Loc} (h : ws = ws2) (hW : Wn D cs A ws s H locs) : Wn D cs A ws2 s H locs := h ▸ hW
theorem hE_T (cs : Cs) (h0 q8 q17 q25 q33 q41 q49 q58 q67 q76 q85 q92 q99 q121 q129 q137 q146 q154 q162 q171 q179 q187 q195 q203 q211 q219 q227 q235 q243 q251 q259 q267 q275 q284 q292 q300 : Nat) {T1 T2 T3 T4 T5 T6 T7 T8 T9 T10 T11 T12 T13 T14 T15 T16 T17 T18 T19 T20 T21 T22 T23 T24 T25 T26 T27 T28 T29 T30 T31 T32 T33 T34 T35 : va_W} (eT1 : T1 = ([] : va_W) ++ [(q8, .inl (cs.1, 23184, .inl fun _ => 0))]) (eT2 : T2 = T1 ++ [(q17, .inl (cs.1, 23184, .inl fun _ => 0))]) (eT3 : T3 = T2 ++ [(q25, .inl (cs.1, 12, .inl fun _ => 0))]) (eT4 : T4 = T3 ++ [(q33, .inl (cs.1, 12, .inl fun _ => 0))]) (eT5 : T5 = T4 ++ [(q41, .inl (cs.1, 12, .inl fun _ => 0))]) (eT6 : T6 = T5 ++ [(q49, .inl (cs.1, 60, .inl fun _ => 0))]) (eT7 : T7 = T6 ++ [(q58, .inl (cs.1, 200, .inl fun _ => 0))]) (eT8 : T8 = T7 ++ [(q67, .inl (cs.1, 200, .inl fun _ => 0))]) (eT9 : T9 = T8 ++ [(q76, .inl (cs.1, 200, .inl fun _ => 0))]) (eT10 : T10 = T9 ++ [(q85, .inl (cs.1, 200, .inl fun _ => 0))]) (eT11 : T11 = T10 ++ [(q92, .inl (cs.1, 4, .inl fun _ => 0))]) (eT12 : T12 = T11 ++ [(q99, .inl (cs.1, 4, .inl fun _ => 0))]) (eT13 : T13 = T12 ++ [(q121, .inl (cs.1, 800, .inl fun _ => 0))]) (eT14 : T14 = T13 ++ [(q129, .inl (cs.1, 40, .inl fun _ => 0))]) (eT15 : T15 = T14 ++ [(q137, .inl (cs.1, 10, .inl fun _ => 0))]) (eT16 : T16 = T15 ++ [(q146, .inl (cs.1, 400, .inl fun _ => 0))]) (eT17 : T17 = T16 ++ [(q154, .inl (cs.2.1, 10, .inl fun _ => 0))]) (eT18 : T18 = T17 ++ [(q162, .inl (cs.1, 20, .inl fun _ => 0))]) (eT19 : T19 = T18 ++ [(q171, .inl (cs.1, 5760, .inl fun _ => 0))]) (eT20 : T20 = T19 ++ [(q179, .inl (cs.1, 12, .inl fun _ => 0))]) (eT21 : T21 = T20 ++ [(q187, .inl (cs.1, 50, .inl fun _ => 0))]) (eT22 : T22 = T21 ++ [(q195, .inl (cs.1, 12, .inl fun _ => 0))]) (eT23 : T23 = T22 ++ [(q203, .inl (cs.1, 12, .inl fun _ => 0))]) (eT24 : T24 = T23 ++ [(q211, .inl (cs.1, 40, .inl fun _ => 0))]) (eT25 : T25 = T24 ++ [(q219, .inl (cs.1, 40, .inl fun _ => 0))]) (eT26 : T26 = T25 ++ [(q227, .inl (cs.1, 40, .inl fun _ => 0))]) (eT27 : T27 = T26 ++ [(q235, .inl (cs.1, 60, .inl fun _ => 0))]) (eT28 : T28 = T27 ++ [(q243, .inl (cs.2.1, 60, .inl fun _ => 0))]) (eT29 : T29 = T28 ++ [(q251, .inl (cs.1, 60, .inl fun _ => 0))]) (eT30 : T30 = T29 ++ [(q259, .inl (cs.1, 60, .inl fun _ => 0))]) (eT31 : T31 = T30 ++ [(q267, .inl (cs.1, 12, .inl fun _ => 0))]) (eT32 : T32 = T31 ++ [(q275, .inl (cs.1, 8, .inl fun _ => 0))]) (eT33 : T33 = T32 ++ [(q284, .inl (cs.1, 2304, .inl fun _ => 0))]) (eT34 : T34 = T33 ++ [(q292, .inl (cs.2.1, 50, .inl fun _ => 0))]) (eT35 : T35 = T34 ++ [(q300, .inl (cs.1, 8, .inl fun _ => 0))]) : ∃ a : Ad, a 69 false 0 = h0 ∧ ((h0, .inr (12, [.int 0, .ref q8, .ref q17, .int 0, .ref q25, .ref q33, .ref q41, .int 0, .ref q49, .int 0, .ref q58, .ref q67, .ref q76, .ref q85, .ref q92, .ref q99, .int 60, .int 500, .int 0, .ref q121, .int 0, .ref q129, .int 0, .ref q137, .ref q146, .ref q154, .int 0, .ref q162, .ref q171, .ref q179, .ref q187, .int 0, .ref q195, .ref q203, .int 0, .ref q211, .ref q219, .ref q227, .int 0, .ref q235, .ref q243, .int 0, .ref q251, .ref q259, .ref q267, .ref q275, .ref q284, .ref q292, .ref q300, .int 0])) :: T35 : va_W) = conc true cs a tM1 := by
  rw [eT35, eT34, eT33, eT32, eT31, eT30, eT29, eT28, eT27, eT26, eT25, eT24, eT23, eT22, eT21, eT20, eT19, eT18, eT17, eT16, eT15, eT14, eT13, eT12, eT11, eT10, eT9, eT8, eT7, eT6, eT5, eT4, eT3, eT2, eT1]
  exact ex_conc (hE_M cs h0 q8 q17 q25 q33 q41 q49 q58 q67 q76 q85 q92 q99 q121 q129 q137 q146 q154 q162 q171 q179 q187 q195 q203 q211 q219 q227 q235 q243 q251 q259 q267 q275 q284 q292 q300) rfl
set_option maxHeartbeats 20000000 in
theorem k_Model (l : Launch) (D : va_G) (cs : Cs) (h0 sz : Nat) : Kt l ⟨"BikeTownModel", "<init>", "()V"⟩ prog_14_method_1_code 2 [] D cs h0 sz (12, dfS 50 tyX12) 3 35 57140 (fun w1 => ∃ (a : Ad) (τ : Sg), a 69 false 0 = h0 ∧ Ag tM0 (bgn tM0 tD0) τ ∧ w1 = conc true cs a τ) := by
  refine Met.ofW (cc := prog_14_method_1_code) (maxL := 2) (ret := none) (by decide) rfl ?_
  intro p e s m args below meth c s₁ B hml hv
  obtain ⟨rfl, hsz, hP, hK, hD0⟩ := hv
  subst hsz
  have hlocks := B.notSynchronized
  have hr := B.returns
  have hin : meth.name = "<init>" := (name_of_methodNamed B.named B.method).1
  have hts := atoms_spec (ws := .code ⟨"BikeTownModel", "<init>", "()V"⟩ prog_14_method_1_code 2 none :: lw_g) B.pre
  have hC : Cw "BikeTownModel" prog_14_method_1_code 2 p s m (.ref h0 :: []).toArray c := ⟨B.exec, B.bytes, hml, findClass_of_methodNamed B.named, fun w hw => hts w (List.mem_cons_of_mem _ hw)⟩
  have hD := hD0.self (sz := s.heap.size)
  generalize hAe : va_A [(h0, .inr (12, dfS 50 tyX12))] s.heap.size = A at hD ⊢
  have hW : Wn D cs A ((h0, .inr (12, [.int 0, .null, .null, .int 0, .null, .null, .null, .int 0, .null, .int 0, .null, .null, .null, .null, .null, .null, .int 0, .int 0, .int 0, .null, .int 0, .null, .int 0, .null, .null, .null, .int 0, .null, .null, .null, .null, .int 0, .null, .null, .int 0, .null, .null, .null, .int 0, .null, .null, .int 0, .null, .null, .null, .null, .null, .null, .null, .int 0])) :: ([] : va_W)) s s.heap [] := ⟨⟨hP, hK, hD⟩, va_S.rf, fun q h => by rw [← hAe]; exact Or.inr h⟩
  have hl := lv_entry (.ref h0 :: []) (n := 2) (Nat.le_of_ble_eq_true rfl)
  rw [lg_entry_eq]
  generalize (lg_sl (.ref h0 :: []) ++ List.replicate (2 - (lg_sl (.ref h0 :: [])).length) Slot.unset).toArray = ls at hl ⊢
  have hl : lv_has ls 2 [(0, .ref h0)] := hl
  refine lv_aload_n hC.1 hC.2.1 dk_Model_0 rfl (lv_at hl 0 rfl) ?_
  refine kr_super hC (w1 := 1171) (by decide +kernel) hl.1 (by exact Nat.le_of_ble_eq_true rfl) (by exact Nat.le_of_ble_eq_true rfl) dk_Model_1 ?_
  refine lv_aload_n hC.1 hC.2.1 dk_Model_4 rfl (lv_at hl 0 rfl) ?_
  refine lv_sipush (v := 23184) hC.1 hC.2.1 dk_Model_5 (by decide) ?_
  refine kr_newI hC hW (N := 23184) mw_ai (by decide) (by decide) (by decide) (by exact Nat.le_of_ble_eq_true rfl) (by exact Nat.le_of_ble_eq_true rfl) dk_Model_8 (fun q8 H hW => ?_)
  refine kr_putF (b := 1) (w1 := 1181) (v := .ref q8) (ty := (.array .int)) (nm := "s") (ds := "[I") (N := 50) hC hin hW rfl (by decide +kernel) (by decide) (by decide +kernel) (by decide +kernel) rfl rfl (by exact Nat.le_of_ble_eq_true rfl) dk_Model_10 (fun H locs hW => ?_)
  obtain ⟨T1, eT1⟩ : ∃ z, z = ([] : va_W) ++ [(q8, .inl (cs.1, 23184, .inl fun _ => 0))] := ⟨_, rfl⟩
  have hW : Wn D cs A ((h0, .inr (12, [.int 0, .ref q8, .null, .int 0, .null, .null, .null, .int 0, .null, .int 0, .null, .null, .null, .null, .null, .null, .int 0, .int 0, .int 0, .null, .int 0, .null, .int 0, .null, .null, .null, .int 0, .null, .null, .null, .null, .int 0, .null, .null, .int 0, .null, .null, .null, .int 0, .null, .null, .int 0, .null, .null, .null, .null, .null, .null, .null, .int 0])) :: (([] : va_W) ++ [(q8, .inl (cs.1, 23184, .inl fun _ => 0))])) s H locs := hW
  rw [← eT1] at hW
  refine lv_aload_n hC.1 hC.2.1 dk_Model_13 rfl (lv_at hl 0 rfl) ?_
  refine lv_sipush (v := 23184) hC.1 hC.2.1 dk_Model_14 (by decide) ?_
  refine kr_newI hC hW (N := 23184) mw_ai (by decide) (by decide) (by decide) (by exact Nat.le_of_ble_eq_true rfl) (by exact Nat.le_of_ble_eq_true rfl) dk_Model_17 (fun q17 H hW => ?_)
  refine kr_putF (b := 2) (w1 := 1182) (v := .ref q17) (ty := (.array .int)) (nm := "kept") (ds := "[I") (N := 50) hC hin hW rfl (by decide +kernel) (by decide) (by decide +kernel) (by decide +kernel) rfl rfl (by exact Nat.le_of_ble_eq_true rfl) dk_Model_19 (fun H locs hW => ?_)
  obtain ⟨T2, eT2⟩ : ∃ z, z = T1 ++ [(q17, .inl (cs.1, 23184, .inl fun _ => 0))] := ⟨_, rfl⟩
  have hW : Wn D cs A ((h0, .inr (12, [.int 0, .ref q8, .ref q17, .int 0, .null, .null, .null, .int 0, .null, .int 0, .null, .null, .null, .null, .null, .null, .int 0, .int 0, .int 0, .null, .int 0, .null, .int 0, .null, .null, .null, .int 0, .null, .null, .null, .null, .int 0, .null, .null, .int 0, .null, .null, .null, .int 0, .null, .null, .int 0, .null, .null, .null, .null, .null, .null, .null, .int 0])) :: (T1 ++ [(q17, .inl (cs.1, 23184, .inl fun _ => 0))])) s H locs := hW
  rw [← eT2] at hW
  refine lv_aload_n hC.1 hC.2.1 dk_Model_22 rfl (lv_at hl 0 rfl) ?_
  refine lv_bipush (v := 12) hC.1 hC.2.1 dk_Model_23 (by decide) ?_
  refine kr_newI hC hW (N := 12) mw_ai (by decide) (by decide) (by decide) (by exact Nat.le_of_ble_eq_true rfl) (by exact Nat.le_of_ble_eq_true rfl) dk_Model_25 (fun q25 H hW => ?_)
  refine kr_putF (b := 4) (w1 := 1184) (v := .ref q25) (ty := (.array .int)) (nm := "px") (ds := "[I") (N := 50) hC hin hW rfl (by decide +kernel) (by decide) (by decide +kernel) (by decide +kernel) rfl rfl (by exact Nat.le_of_ble_eq_true rfl) dk_Model_27 (fun H locs hW => ?_)
  obtain ⟨T3, eT3⟩ : ∃ z, z = T2 ++ [(q25, .inl (cs.1, 12, .inl fun _ => 0))] := ⟨_, rfl⟩
  have hW : Wn D cs A ((h0, .inr (12, [.int 0, .ref q8, .ref q17, .int 0, .ref q25, .null, .null, .int 0, .null, .int 0, .null, .null, .null, .null, .null, .null, .int 0, .int 0, .int 0, .null, .int 0, .null, .int 0, .null, .null, .null, .int 0, .null, .null, .null, .null, .int 0, .null, .null, .int 0, .null, .null, .null, .int 0, .null, .null, .int 0, .null, .null, .null, .null, .null, .null, .null, .int 0])) :: (T2 ++ [(q25, .inl (cs.1, 12, .inl fun _ => 0))])) s H locs := hW
  rw [← eT3] at hW
  refine lv_aload_n hC.1 hC.2.1 dk_Model_30 rfl (lv_at hl 0 rfl) ?_
  refine lv_bipush (v := 12) hC.1 hC.2.1 dk_Model_31 (by decide) ?_
  refine kr_newI hC hW (N := 12) mw_ai (by decide) (by decide) (by decide) (by exact Nat.le_of_ble_eq_true rfl) (by exact Nat.le_of_ble_eq_true rfl) dk_Model_33 (fun q33 H hW => ?_)
  refine kr_putF (b := 5) (w1 := 1185) (v := .ref q33) (ty := (.array .int)) (nm := "py") (ds := "[I") (N := 50) hC hin hW rfl (by decide +kernel) (by decide) (by decide +kernel) (by decide +kernel) rfl rfl (by exact Nat.le_of_ble_eq_true rfl) dk_Model_35 (fun H locs hW => ?_)
  obtain ⟨T4, eT4⟩ : ∃ z, z = T3 ++ [(q33, .inl (cs.1, 12, .inl fun _ => 0))] := ⟨_, rfl⟩
  have hW : Wn D cs A ((h0, .inr (12, [.int 0, .ref q8, .ref q17, .int 0, .ref q25, .ref q33, .null, .int 0, .null, .int 0, .null, .null, .null, .null, .null, .null, .int 0, .int 0, .int 0, .null, .int 0, .null, .int 0, .null, .null, .null, .int 0, .null, .null, .null, .null, .int 0, .null, .null, .int 0, .null, .null, .null, .int 0, .null, .null, .int 0, .null, .null, .null, .null, .null, .null, .null, .int 0])) :: (T3 ++ [(q33, .inl (cs.1, 12, .inl fun _ => 0))])) s H locs := hW
  rw [← eT4] at hW
  refine lv_aload_n hC.1 hC.2.1 dk_Model_38 rfl (lv_at hl 0 rfl) ?_
  refine lv_bipush (v := 12) hC.1 hC.2.1 dk_Model_39 (by decide) ?_
  refine kr_newI hC hW (N := 12) mw_ai (by decide) (by decide) (by decide) (by exact Nat.le_of_ble_eq_true rfl) (by exact Nat.le_of_ble_eq_true rfl) dk_Model_41 (fun q41 H hW => ?_)
  refine kr_putF (b := 6) (w1 := 1186) (v := .ref q41) (ty := (.array .int)) (nm := "racks") (ds := "[I") (N := 50) hC hin hW rfl (by decide +kernel) (by decide) (by decide +kernel) (by decide +kernel) rfl rfl (by exact Nat.le_of_ble_eq_true rfl) dk_Model_43 (fun H locs hW => ?_)
  obtain ⟨T5, eT5⟩ : ∃ z, z = T4 ++ [(q41, .inl (cs.1, 12, .inl fun _ => 0))] := ⟨_, rfl⟩
  have hW : Wn D cs A ((h0, .inr (12, [.int 0, .ref q8, .ref q17, .int 0, .ref q25, .ref q33, .ref q41, .int 0, .null, .int 0, .null, .null, .null, .null, .null, .null, .int 0, .int 0, .int 0, .null, .int 0, .null, .int 0, .null, .null, .null, .int 0, .null, .null, .null, .null, .int 0, .null, .null, .int 0, .null, .null, .null, .int 0, .null, .null, .int 0, .null, .null, .null, .null, .null, .null, .null, .int 0])) :: (T4 ++ [(q41, .inl (cs.1, 12, .inl fun _ => 0))])) s H locs := hW
  rw [← eT5] at hW
  refine lv_aload_n hC.1 hC.2.1 dk_Model_46 rfl (lv_at hl 0 rfl) ?_
  refine lv_bipush (v := 60) hC.1 hC.2.1 dk_Model_47 (by decide) ?_
  refine kr_newI hC hW (N := 60) mw_ai (by decide) (by decide) (by decide) (by exact Nat.le_of_ble_eq_true rfl) (by exact Nat.le_of_ble_eq_true rfl) dk_Model_49 (fun q49 H hW => ?_)
  refine kr_putF (b := 8) (w1 := 1188) (v := .ref q49) (ty := (.array .int)) (nm := "home") (ds := "[I") (N := 50) hC hin hW rfl (by decide +kernel) (by decide) (by decide +kernel) (by decide +kernel) rfl rfl (by exact Nat.le_of_ble_eq_true rfl) dk_Model_51 (fun H locs hW => ?_)
  obtain ⟨T6, eT6⟩ : ∃ z, z = T5 ++ [(q49, .inl (cs.1, 60, .inl fun _ => 0))] := ⟨_, rfl⟩
  have hW : Wn D cs A ((h0, .inr (12, [.int 0, .ref q8, .ref q17, .int 0, .ref q25, .ref q33, .ref q41, .int 0, .ref q49, .int 0, .null, .null, .null, .null, .null, .null, .int 0, .int 0, .int 0, .null, .int 0, .null, .int 0, .null, .null, .null, .int 0, .null, .null, .null, .null, .int 0, .null, .null, .int 0, .null, .null, .null, .int 0, .null, .null, .int 0, .null, .null, .null, .null, .null, .null, .null, .int 0])) :: (T5 ++ [(q49, .inl (cs.1, 60, .inl fun _ => 0))])) s H locs := hW
  rw [← eT6] at hW
  refine lv_aload_n hC.1 hC.2.1 dk_Model_54 rfl (lv_at hl 0 rfl) ?_
  refine lv_sipush (v := 200) hC.1 hC.2.1 dk_Model_55 (by decide) ?_
  refine kr_newI hC hW (N := 200) mw_ai (by decide) (by decide) (by decide) (by exact Nat.le_of_ble_eq_true rfl) (by exact Nat.le_of_ble_eq_true rfl) dk_Model_58 (fun q58 H hW => ?_)
  refine kr_putF (b := 10) (w1 := 1190) (v := .ref q58) (ty := (.array .int)) (nm := "minute") (ds := "[I") (N := 50) hC hin hW rfl (by decide +kernel) (by decide) (by decide +kernel) (by decide +kernel) rfl rfl (by exact Nat.le_of_ble_eq_true rfl) dk_Model_60 (fun H locs hW => ?_)
  obtain ⟨T7, eT7⟩ : ∃ z, z = T6 ++ [(q58, .inl (cs.1, 200, .inl fun _ => 0))] := ⟨_, rfl⟩
  have hW : Wn D cs A ((h0, .inr (12, [.int 0, .ref q8, .ref q17, .int 0, .ref q25, .ref q33, .ref q41, .int 0, .ref q49, .int 0, .ref q58, .null, .null, .null, .null, .null, .int 0, .int 0, .int 0, .null, .int 0, .null, .int 0, .null, .null, .null, .int 0, .null, .null, .null, .null, .int 0, .null, .null, .int 0, .null, .null, .null, .int 0, .null, .null, .int 0, .null, .null, .null, .null, .null, .null, .null, .int 0])) :: (T6 ++ [(q58, .inl (cs.1, 200, .inl fun _ => 0))])) s H locs := hW
  rw [← eT7] at hW
  refine lv_aload_n hC.1 hC.2.1 dk_Model_63 rfl (lv_at hl 0 rfl) ?_
  refine lv_sipush (v := 200) hC.1 hC.2.1 dk_Model_64 (by decide) ?_
  refine kr_newI hC hW (N := 200) mw_ai (by decide) (by decide) (by decide) (by exact Nat.le_of_ble_eq_true rfl) (by exact Nat.le_of_ble_eq_true rfl) dk_Model_67 (fun q67 H hW => ?_)
  refine kr_putF (b := 11) (w1 := 1191) (v := .ref q67) (ty := (.array .int)) (nm := "from") (ds := "[I") (N := 50) hC hin hW rfl (by decide +kernel) (by decide) (by decide +kernel) (by decide +kernel) rfl rfl (by exact Nat.le_of_ble_eq_true rfl) dk_Model_69 (fun H locs hW => ?_)
  obtain ⟨T8, eT8⟩ : ∃ z, z = T7 ++ [(q67, .inl (cs.1, 200, .inl fun _ => 0))] := ⟨_, rfl⟩
  have hW : Wn D cs A ((h0, .inr (12, [.int 0, .ref q8, .ref q17, .int 0, .ref q25, .ref q33, .ref q41, .int 0, .ref q49, .int 0, .ref q58, .ref q67, .null, .null, .null, .null, .int 0, .int 0, .int 0, .null, .int 0, .null, .int 0, .null, .null, .null, .int 0, .null, .null, .null, .null, .int 0, .null, .null, .int 0, .null, .null, .null, .int 0, .null, .null, .int 0, .null, .null, .null, .null, .null, .null, .null, .int 0])) :: (T7 ++ [(q67, .inl (cs.1, 200, .inl fun _ => 0))])) s H locs := hW
  rw [← eT8] at hW
  refine lv_aload_n hC.1 hC.2.1 dk_Model_72 rfl (lv_at hl 0 rfl) ?_
  refine lv_sipush (v := 200) hC.1 hC.2.1 dk_Model_73 (by decide) ?_
  refine kr_newI hC hW (N := 200) mw_ai (by decide) (by decide) (by decide) (by exact Nat.le_of_ble_eq_true rfl) (by exact Nat.le_of_ble_eq_true rfl) dk_Model_76 (fun q76 H hW => ?_)
  refine kr_putF (b := 12) (w1 := 1192) (v := .ref q76) (ty := (.array .int)) (nm := "to") (ds := "[I") (N := 50) hC hin hW rfl (by decide +kernel) (by decide) (by decide +kernel) (by decide +kernel) rfl rfl (by exact Nat.le_of_ble_eq_true rfl) dk_Model_78 (fun H locs hW => ?_)
  obtain ⟨T9, eT9⟩ : ∃ z, z = T8 ++ [(q76, .inl (cs.1, 200, .inl fun _ => 0))] := ⟨_, rfl⟩
  have hW : Wn D cs A ((h0, .inr (12, [.int 0, .ref q8, .ref q17, .int 0, .ref q25, .ref q33, .ref q41, .int 0, .ref q49, .int 0, .ref q58, .ref q67, .ref q76, .null, .null, .null, .int 0, .int 0, .int 0, .null, .int 0, .null, .int 0, .null, .null, .null, .int 0, .null, .null, .null, .null, .int 0, .null, .null, .int 0, .null, .null, .null, .int 0, .null, .null, .int 0, .null, .null, .null, .null, .null, .null, .null, .int 0])) :: (T8 ++ [(q76, .inl (cs.1, 200, .inl fun _ => 0))])) s H locs := hW
  rw [← eT9] at hW
  refine lv_aload_n hC.1 hC.2.1 dk_Model_81 rfl (lv_at hl 0 rfl) ?_
  refine lv_sipush (v := 200) hC.1 hC.2.1 dk_Model_82 (by decide) ?_
  refine kr_newI hC hW (N := 200) mw_ai (by decide) (by decide) (by decide) (by exact Nat.le_of_ble_eq_true rfl) (by exact Nat.le_of_ble_eq_true rfl) dk_Model_85 (fun q85 H hW => ?_)
  refine kr_putF (b := 13) (w1 := 1193) (v := .ref q85) (ty := (.array .int)) (nm := "kindOf") (ds := "[I") (N := 50) hC hin hW rfl (by decide +kernel) (by decide) (by decide +kernel) (by decide +kernel) rfl rfl (by exact Nat.le_of_ble_eq_true rfl) dk_Model_87 (fun H locs hW => ?_)
  obtain ⟨T10, eT10⟩ : ∃ z, z = T9 ++ [(q85, .inl (cs.1, 200, .inl fun _ => 0))] := ⟨_, rfl⟩
  have hW : Wn D cs A ((h0, .inr (12, [.int 0, .ref q8, .ref q17, .int 0, .ref q25, .ref q33, .ref q41, .int 0, .ref q49, .int 0, .ref q58, .ref q67, .ref q76, .ref q85, .null, .null, .int 0, .int 0, .int 0, .null, .int 0, .null, .int 0, .null, .null, .null, .int 0, .null, .null, .null, .null, .int 0, .null, .null, .int 0, .null, .null, .null, .int 0, .null, .null, .int 0, .null, .null, .null, .null, .null, .null, .null, .int 0])) :: (T9 ++ [(q85, .inl (cs.1, 200, .inl fun _ => 0))])) s H locs := hW
  rw [← eT10] at hW
  refine lv_aload_n hC.1 hC.2.1 dk_Model_90 rfl (lv_at hl 0 rfl) ?_
  refine lv_iconst (v := 4) hC.1 hC.2.1 dk_Model_91 (by decide) ?_
  refine kr_newI hC hW (N := 4) mw_ai (by decide) (by decide) (by decide) (by exact Nat.le_of_ble_eq_true rfl) (by exact Nat.le_of_ble_eq_true rfl) dk_Model_92 (fun q92 H hW => ?_)
  refine kr_putF (b := 14) (w1 := 1194) (v := .ref q92) (ty := (.array .int)) (nm := "limit") (ds := "[I") (N := 50) hC hin hW rfl (by decide +kernel) (by decide) (by decide +kernel) (by decide +kernel) rfl rfl (by exact Nat.le_of_ble_eq_true rfl) dk_Model_94 (fun H locs hW => ?_)
  obtain ⟨T11, eT11⟩ : ∃ z, z = T10 ++ [(q92, .inl (cs.1, 4, .inl fun _ => 0))] := ⟨_, rfl⟩
  have hW : Wn D cs A ((h0, .inr (12, [.int 0, .ref q8, .ref q17, .int 0, .ref q25, .ref q33, .ref q41, .int 0, .ref q49, .int 0, .ref q58, .ref q67, .ref q76, .ref q85, .ref q92, .null, .int 0, .int 0, .int 0, .null, .int 0, .null, .int 0, .null, .null, .null, .int 0, .null, .null, .null, .null, .int 0, .null, .null, .int 0, .null, .null, .null, .int 0, .null, .null, .int 0, .null, .null, .null, .null, .null, .null, .null, .int 0])) :: (T10 ++ [(q92, .inl (cs.1, 4, .inl fun _ => 0))])) s H locs := hW
  rw [← eT11] at hW
  refine lv_aload_n hC.1 hC.2.1 dk_Model_97 rfl (lv_at hl 0 rfl) ?_
  refine lv_iconst (v := 4) hC.1 hC.2.1 dk_Model_98 (by decide) ?_
  refine kr_newI hC hW (N := 4) mw_ai (by decide) (by decide) (by decide) (by exact Nat.le_of_ble_eq_true rfl) (by exact Nat.le_of_ble_eq_true rfl) dk_Model_99 (fun q99 H hW => ?_)
  refine kr_putF (b := 15) (w1 := 1195) (v := .ref q99) (ty := (.array .int)) (nm := "patience") (ds := "[I") (N := 50) hC hin hW rfl (by decide +kernel) (by decide) (by decide +kernel) (by decide +kernel) rfl rfl (by exact Nat.le_of_ble_eq_true rfl) dk_Model_101 (fun H locs hW => ?_)
  obtain ⟨T12, eT12⟩ : ∃ z, z = T11 ++ [(q99, .inl (cs.1, 4, .inl fun _ => 0))] := ⟨_, rfl⟩
  have hW : Wn D cs A ((h0, .inr (12, [.int 0, .ref q8, .ref q17, .int 0, .ref q25, .ref q33, .ref q41, .int 0, .ref q49, .int 0, .ref q58, .ref q67, .ref q76, .ref q85, .ref q92, .ref q99, .int 0, .int 0, .int 0, .null, .int 0, .null, .int 0, .null, .null, .null, .int 0, .null, .null, .null, .null, .int 0, .null, .null, .int 0, .null, .null, .null, .int 0, .null, .null, .int 0, .null, .null, .null, .null, .null, .null, .null, .int 0])) :: (T11 ++ [(q99, .inl (cs.1, 4, .inl fun _ => 0))])) s H locs := hW
  rw [← eT12] at hW
  refine lv_aload_n hC.1 hC.2.1 dk_Model_104 rfl (lv_at hl 0 rfl) ?_
  refine lv_bipush (v := 60) hC.1 hC.2.1 dk_Model_105 (by decide) ?_
  refine kr_put (b := 16) (w1 := 1196) (v := .int 60) (ty := .int) (nm := "mend") (ds := "I") (N := 50) hC hW rfl (by decide +kernel) (by decide) (by decide +kernel) (by decide +kernel) rfl rfl (by exact Nat.le_of_ble_eq_true rfl) dk_Model_107 (fun H locs hW => ?_)
  have hW : Wn D cs A ((h0, .inr (12, [.int 0, .ref q8, .ref q17, .int 0, .ref q25, .ref q33, .ref q41, .int 0, .ref q49, .int 0, .ref q58, .ref q67, .ref q76, .ref q85, .ref q92, .ref q99, .int 60, .int 0, .int 0, .null, .int 0, .null, .int 0, .null, .null, .null, .int 0, .null, .null, .null, .null, .int 0, .null, .null, .int 0, .null, .null, .null, .int 0, .null, .null, .int 0, .null, .null, .null, .null, .null, .null, .null, .int 0])) :: T12) s H locs := hW
  refine lv_aload_n hC.1 hC.2.1 dk_Model_110 rfl (lv_at hl 0 rfl) ?_
  refine lv_sipush (v := 500) hC.1 hC.2.1 dk_Model_111 (by decide) ?_
  refine kr_put (b := 17) (w1 := 1197) (v := .int 500) (ty := .int) (nm := "worn") (ds := "I") (N := 50) hC hW rfl (by decide +kernel) (by decide) (by decide +kernel) (by decide +kernel) rfl rfl (by exact Nat.le_of_ble_eq_true rfl) dk_Model_114 (fun H locs hW => ?_)
  have hW : Wn D cs A ((h0, .inr (12, [.int 0, .ref q8, .ref q17, .int 0, .ref q25, .ref q33, .ref q41, .int 0, .ref q49, .int 0, .ref q58, .ref q67, .ref q76, .ref q85, .ref q92, .ref q99, .int 60, .int 500, .int 0, .null, .int 0, .null, .int 0, .null, .null, .null, .int 0, .null, .null, .null, .null, .int 0, .null, .null, .int 0, .null, .null, .null, .int 0, .null, .null, .int 0, .null, .null, .null, .null, .null, .null, .null, .int 0])) :: T12) s H locs := hW
  refine lv_aload_n hC.1 hC.2.1 dk_Model_117 rfl (lv_at hl 0 rfl) ?_
  refine lv_sipush (v := 800) hC.1 hC.2.1 dk_Model_118 (by decide) ?_
  refine kr_newI hC hW (N := 800) mw_ai (by decide) (by decide) (by decide) (by exact Nat.le_of_ble_eq_true rfl) (by exact Nat.le_of_ble_eq_true rfl) dk_Model_121 (fun q121 H hW => ?_)
  refine kr_putF (b := 19) (w1 := 1199) (v := .ref q121) (ty := (.array .int)) (nm := "hand") (ds := "[I") (N := 50) hC hin hW rfl (by decide +kernel) (by decide) (by decide +kernel) (by decide +kernel) rfl rfl (by exact Nat.le_of_ble_eq_true rfl) dk_Model_123 (fun H locs hW => ?_)
  obtain ⟨T13, eT13⟩ : ∃ z, z = T12 ++ [(q121, .inl (cs.1, 800, .inl fun _ => 0))] := ⟨_, rfl⟩
  have hW : Wn D cs A ((h0, .inr (12, [.int 0, .ref q8, .ref q17, .int 0, .ref q25, .ref q33, .ref q41, .int 0, .ref q49, .int 0, .ref q58, .ref q67, .ref q76, .ref q85, .ref q92, .ref q99, .int 60, .int 500, .int 0, .ref q121, .int 0, .null, .int 0, .null, .null, .null, .int 0, .null, .null, .null, .null, .int 0, .null, .null, .int 0, .null, .null, .null, .int 0, .null, .null, .int 0, .null, .null, .null, .null, .null, .null, .null, .int 0])) :: (T12 ++ [(q121, .inl (cs.1, 800, .inl fun _ => 0))])) s H locs := hW
  rw [← eT13] at hW
  refine lv_aload_n hC.1 hC.2.1 dk_Model_126 rfl (lv_at hl 0 rfl) ?_
  refine lv_bipush (v := 40) hC.1 hC.2.1 dk_Model_127 (by decide) ?_
  refine kr_newI hC hW (N := 40) mw_ai (by decide) (by decide) (by decide) (by exact Nat.le_of_ble_eq_true rfl) (by exact Nat.le_of_ble_eq_true rfl) dk_Model_129 (fun q129 H hW => ?_)
  refine kr_putF (b := 21) (w1 := 1201) (v := .ref q129) (ty := (.array .int)) (nm := "text") (ds := "[I") (N := 50) hC hin hW rfl (by decide +kernel) (by decide) (by decide +kernel) (by decide +kernel) rfl rfl (by exact Nat.le_of_ble_eq_true rfl) dk_Model_131 (fun H locs hW => ?_)
  obtain ⟨T14, eT14⟩ : ∃ z, z = T13 ++ [(q129, .inl (cs.1, 40, .inl fun _ => 0))] := ⟨_, rfl⟩
  have hW : Wn D cs A ((h0, .inr (12, [.int 0, .ref q8, .ref q17, .int 0, .ref q25, .ref q33, .ref q41, .int 0, .ref q49, .int 0, .ref q58, .ref q67, .ref q76, .ref q85, .ref q92, .ref q99, .int 60, .int 500, .int 0, .ref q121, .int 0, .ref q129, .int 0, .null, .null, .null, .int 0, .null, .null, .null, .null, .int 0, .null, .null, .int 0, .null, .null, .null, .int 0, .null, .null, .int 0, .null, .null, .null, .null, .null, .null, .null, .int 0])) :: (T13 ++ [(q129, .inl (cs.1, 40, .inl fun _ => 0))])) s H locs := hW
  rw [← eT14] at hW
  refine lv_aload_n hC.1 hC.2.1 dk_Model_134 rfl (lv_at hl 0 rfl) ?_
  refine lv_bipush (v := 10) hC.1 hC.2.1 dk_Model_135 (by decide) ?_
  refine kr_newI hC hW (N := 10) mw_ai (by decide) (by decide) (by decide) (by exact Nat.le_of_ble_eq_true rfl) (by exact Nat.le_of_ble_eq_true rfl) dk_Model_137 (fun q137 H hW => ?_)
  refine kr_putF (b := 23) (w1 := 1203) (v := .ref q137) (ty := (.array .int)) (nm := "ruleSize") (ds := "[I") (N := 50) hC hin hW rfl (by decide +kernel) (by decide) (by decide +kernel) (by decide +kernel) rfl rfl (by exact Nat.le_of_ble_eq_true rfl) dk_Model_139 (fun H locs hW => ?_)
  obtain ⟨T15, eT15⟩ : ∃ z, z = T14 ++ [(q137, .inl (cs.1, 10, .inl fun _ => 0))] := ⟨_, rfl⟩
  have hW : Wn D cs A ((h0, .inr (12, [.int 0, .ref q8, .ref q17, .int 0, .ref q25, .ref q33, .ref q41, .int 0, .ref q49, .int 0, .ref q58, .ref q67, .ref q76, .ref q85, .ref q92, .ref q99, .int 60, .int 500, .int 0, .ref q121, .int 0, .ref q129, .int 0, .ref q137, .null, .null, .int 0, .null, .null, .null, .null, .int 0, .null, .null, .int 0, .null, .null, .null, .int 0, .null, .null, .int 0, .null, .null, .null, .null, .null, .null, .null, .int 0])) :: (T14 ++ [(q137, .inl (cs.1, 10, .inl fun _ => 0))])) s H locs := hW
  rw [← eT15] at hW
  refine lv_aload_n hC.1 hC.2.1 dk_Model_142 rfl (lv_at hl 0 rfl) ?_
  refine lv_sipush (v := 400) hC.1 hC.2.1 dk_Model_143 (by decide) ?_
  refine kr_newI hC hW (N := 400) mw_ai (by decide) (by decide) (by decide) (by exact Nat.le_of_ble_eq_true rfl) (by exact Nat.le_of_ble_eq_true rfl) dk_Model_146 (fun q146 H hW => ?_)
  refine kr_putF (b := 24) (w1 := 1204) (v := .ref q146) (ty := (.array .int)) (nm := "rule") (ds := "[I") (N := 50) hC hin hW rfl (by decide +kernel) (by decide) (by decide +kernel) (by decide +kernel) rfl rfl (by exact Nat.le_of_ble_eq_true rfl) dk_Model_148 (fun H locs hW => ?_)
  obtain ⟨T16, eT16⟩ : ∃ z, z = T15 ++ [(q146, .inl (cs.1, 400, .inl fun _ => 0))] := ⟨_, rfl⟩
  have hW : Wn D cs A ((h0, .inr (12, [.int 0, .ref q8, .ref q17, .int 0, .ref q25, .ref q33, .ref q41, .int 0, .ref q49, .int 0, .ref q58, .ref q67, .ref q76, .ref q85, .ref q92, .ref q99, .int 60, .int 500, .int 0, .ref q121, .int 0, .ref q129, .int 0, .ref q137, .ref q146, .null, .int 0, .null, .null, .null, .null, .int 0, .null, .null, .int 0, .null, .null, .null, .int 0, .null, .null, .int 0, .null, .null, .null, .null, .null, .null, .null, .int 0])) :: (T15 ++ [(q146, .inl (cs.1, 400, .inl fun _ => 0))])) s H locs := hW
  rw [← eT16] at hW
  refine lv_aload_n hC.1 hC.2.1 dk_Model_151 rfl (lv_at hl 0 rfl) ?_
  refine lv_bipush (v := 10) hC.1 hC.2.1 dk_Model_152 (by decide) ?_
  refine kr_newB hC hW (N := 10) mw_az (by decide) (by decide) (by decide) (by exact Nat.le_of_ble_eq_true rfl) (by exact Nat.le_of_ble_eq_true rfl) dk_Model_154 (fun q154 H hW => ?_)
  refine kr_putF (b := 25) (w1 := 1205) (v := .ref q154) (ty := (.array .boolean)) (nm := "isOff") (ds := "[Z") (N := 50) hC hin hW rfl (by decide +kernel) (by decide) (by decide +kernel) (by decide +kernel) rfl rfl (by exact Nat.le_of_ble_eq_true rfl) dk_Model_156 (fun H locs hW => ?_)
  obtain ⟨T17, eT17⟩ : ∃ z, z = T16 ++ [(q154, .inl (cs.2.1, 10, .inl fun _ => 0))] := ⟨_, rfl⟩
  have hW : Wn D cs A ((h0, .inr (12, [.int 0, .ref q8, .ref q17, .int 0, .ref q25, .ref q33, .ref q41, .int 0, .ref q49, .int 0, .ref q58, .ref q67, .ref q76, .ref q85, .ref q92, .ref q99, .int 60, .int 500, .int 0, .ref q121, .int 0, .ref q129, .int 0, .ref q137, .ref q146, .ref q154, .int 0, .null, .null, .null, .null, .int 0, .null, .null, .int 0, .null, .null, .null, .int 0, .null, .null, .int 0, .null, .null, .null, .null, .null, .null, .null, .int 0])) :: (T16 ++ [(q154, .inl (cs.2.1, 10, .inl fun _ => 0))])) s H locs := hW
  rw [← eT17] at hW
  refine lv_aload_n hC.1 hC.2.1 dk_Model_159 rfl (lv_at hl 0 rfl) ?_
  refine lv_bipush (v := 20) hC.1 hC.2.1 dk_Model_160 (by decide) ?_
  refine kr_newI hC hW (N := 20) mw_ai (by decide) (by decide) (by decide) (by exact Nat.le_of_ble_eq_true rfl) (by exact Nat.le_of_ble_eq_true rfl) dk_Model_162 (fun q162 H hW => ?_)
  refine kr_putF (b := 27) (w1 := 1207) (v := .ref q162) (ty := (.array .int)) (nm := "weekday") (ds := "[I") (N := 50) hC hin hW rfl (by decide +kernel) (by decide) (by decide +kernel) (by decide +kernel) rfl rfl (by exact Nat.le_of_ble_eq_true rfl) dk_Model_164 (fun H locs hW => ?_)
  obtain ⟨T18, eT18⟩ : ∃ z, z = T17 ++ [(q162, .inl (cs.1, 20, .inl fun _ => 0))] := ⟨_, rfl⟩
  have hW : Wn D cs A ((h0, .inr (12, [.int 0, .ref q8, .ref q17, .int 0, .ref q25, .ref q33, .ref q41, .int 0, .ref q49, .int 0, .ref q58, .ref q67, .ref q76, .ref q85, .ref q92, .ref q99, .int 60, .int 500, .int 0, .ref q121, .int 0, .ref q129, .int 0, .ref q137, .ref q146, .ref q154, .int 0, .ref q162, .null, .null, .null, .int 0, .null, .null, .int 0, .null, .null, .null, .int 0, .null, .null, .int 0, .null, .null, .null, .null, .null, .null, .null, .int 0])) :: (T17 ++ [(q162, .inl (cs.1, 20, .inl fun _ => 0))])) s H locs := hW
  rw [← eT18] at hW
  refine lv_aload_n hC.1 hC.2.1 dk_Model_167 rfl (lv_at hl 0 rfl) ?_
  refine lv_sipush (v := 5760) hC.1 hC.2.1 dk_Model_168 (by decide) ?_
  refine kr_newI hC hW (N := 5760) mw_ai (by decide) (by decide) (by decide) (by exact Nat.le_of_ble_eq_true rfl) (by exact Nat.le_of_ble_eq_true rfl) dk_Model_171 (fun q171 H hW => ?_)
  refine kr_putF (b := 28) (w1 := 1208) (v := .ref q171) (ty := (.array .int)) (nm := "dayTaken") (ds := "[I") (N := 50) hC hin hW rfl (by decide +kernel) (by decide) (by decide +kernel) (by decide +kernel) rfl rfl (by exact Nat.le_of_ble_eq_true rfl) dk_Model_173 (fun H locs hW => ?_)
  obtain ⟨T19, eT19⟩ : ∃ z, z = T18 ++ [(q171, .inl (cs.1, 5760, .inl fun _ => 0))] := ⟨_, rfl⟩
  have hW : Wn D cs A ((h0, .inr (12, [.int 0, .ref q8, .ref q17, .int 0, .ref q25, .ref q33, .ref q41, .int 0, .ref q49, .int 0, .ref q58, .ref q67, .ref q76, .ref q85, .ref q92, .ref q99, .int 60, .int 500, .int 0, .ref q121, .int 0, .ref q129, .int 0, .ref q137, .ref q146, .ref q154, .int 0, .ref q162, .ref q171, .null, .null, .int 0, .null, .null, .int 0, .null, .null, .null, .int 0, .null, .null, .int 0, .null, .null, .null, .null, .null, .null, .null, .int 0])) :: (T18 ++ [(q171, .inl (cs.1, 5760, .inl fun _ => 0))])) s H locs := hW
  rw [← eT19] at hW
  refine lv_aload_n hC.1 hC.2.1 dk_Model_176 rfl (lv_at hl 0 rfl) ?_
  refine lv_bipush (v := 12) hC.1 hC.2.1 dk_Model_177 (by decide) ?_
  refine kr_newI hC hW (N := 12) mw_ai (by decide) (by decide) (by decide) (by exact Nat.le_of_ble_eq_true rfl) (by exact Nat.le_of_ble_eq_true rfl) dk_Model_179 (fun q179 H hW => ?_)
  refine kr_putF (b := 29) (w1 := 1209) (v := .ref q179) (ty := (.array .int)) (nm := "want") (ds := "[I") (N := 50) hC hin hW rfl (by decide +kernel) (by decide) (by decide +kernel) (by decide +kernel) rfl rfl (by exact Nat.le_of_ble_eq_true rfl) dk_Model_181 (fun H locs hW => ?_)
  obtain ⟨T20, eT20⟩ : ∃ z, z = T19 ++ [(q179, .inl (cs.1, 12, .inl fun _ => 0))] := ⟨_, rfl⟩
  have hW : Wn D cs A ((h0, .inr (12, [.int 0, .ref q8, .ref q17, .int 0, .ref q25, .ref q33, .ref q41, .int 0, .ref q49, .int 0, .ref q58, .ref q67, .ref q76, .ref q85, .ref q92, .ref q99, .int 60, .int 500, .int 0, .ref q121, .int 0, .ref q129, .int 0, .ref q137, .ref q146, .ref q154, .int 0, .ref q162, .ref q171, .ref q179, .null, .int 0, .null, .null, .int 0, .null, .null, .null, .int 0, .null, .null, .int 0, .null, .null, .null, .null, .null, .null, .null, .int 0])) :: (T19 ++ [(q179, .inl (cs.1, 12, .inl fun _ => 0))])) s H locs := hW
  rw [← eT20] at hW
  refine lv_aload_n hC.1 hC.2.1 dk_Model_184 rfl (lv_at hl 0 rfl) ?_
  refine lv_bipush (v := 50) hC.1 hC.2.1 dk_Model_185 (by decide) ?_
  refine kr_newI hC hW (N := 50) mw_ai (by decide) (by decide) (by decide) (by exact Nat.le_of_ble_eq_true rfl) (by exact Nat.le_of_ble_eq_true rfl) dk_Model_187 (fun q187 H hW => ?_)
  refine kr_putF (b := 30) (w1 := 1210) (v := .ref q187) (ty := (.array .int)) (nm := "gains") (ds := "[I") (N := 50) hC hin hW rfl (by decide +kernel) (by decide) (by decide +kernel) (by decide +kernel) rfl rfl (by exact Nat.le_of_ble_eq_true rfl) dk_Model_189 (fun H locs hW => ?_)
  obtain ⟨T21, eT21⟩ : ∃ z, z = T20 ++ [(q187, .inl (cs.1, 50, .inl fun _ => 0))] := ⟨_, rfl⟩
  have hW : Wn D cs A ((h0, .inr (12, [.int 0, .ref q8, .ref q17, .int 0, .ref q25, .ref q33, .ref q41, .int 0, .ref q49, .int 0, .ref q58, .ref q67, .ref q76, .ref q85, .ref q92, .ref q99, .int 60, .int 500, .int 0, .ref q121, .int 0, .ref q129, .int 0, .ref q137, .ref q146, .ref q154, .int 0, .ref q162, .ref q171, .ref q179, .ref q187, .int 0, .null, .null, .int 0, .null, .null, .null, .int 0, .null, .null, .int 0, .null, .null, .null, .null, .null, .null, .null, .int 0])) :: (T20 ++ [(q187, .inl (cs.1, 50, .inl fun _ => 0))])) s H locs := hW
  rw [← eT21] at hW
  refine lv_aload_n hC.1 hC.2.1 dk_Model_192 rfl (lv_at hl 0 rfl) ?_
  refine lv_bipush (v := 12) hC.1 hC.2.1 dk_Model_193 (by decide) ?_
  refine kr_newI hC hW (N := 12) mw_ai (by decide) (by decide) (by decide) (by exact Nat.le_of_ble_eq_true rfl) (by exact Nat.le_of_ble_eq_true rfl) dk_Model_195 (fun q195 H hW => ?_)
  refine kr_putF (b := 32) (w1 := 1212) (v := .ref q195) (ty := (.array .int)) (nm := "siteX") (ds := "[I") (N := 50) hC hin hW rfl (by decide +kernel) (by decide) (by decide +kernel) (by decide +kernel) rfl rfl (by exact Nat.le_of_ble_eq_true rfl) dk_Model_197 (fun H locs hW => ?_)
  obtain ⟨T22, eT22⟩ : ∃ z, z = T21 ++ [(q195, .inl (cs.1, 12, .inl fun _ => 0))] := ⟨_, rfl⟩
  have hW : Wn D cs A ((h0, .inr (12, [.int 0, .ref q8, .ref q17, .int 0, .ref q25, .ref q33, .ref q41, .int 0, .ref q49, .int 0, .ref q58, .ref q67, .ref q76, .ref q85, .ref q92, .ref q99, .int 60, .int 500, .int 0, .ref q121, .int 0, .ref q129, .int 0, .ref q137, .ref q146, .ref q154, .int 0, .ref q162, .ref q171, .ref q179, .ref q187, .int 0, .ref q195, .null, .int 0, .null, .null, .null, .int 0, .null, .null, .int 0, .null, .null, .null, .null, .null, .null, .null, .int 0])) :: (T21 ++ [(q195, .inl (cs.1, 12, .inl fun _ => 0))])) s H locs := hW
  rw [← eT22] at hW
  refine lv_aload_n hC.1 hC.2.1 dk_Model_200 rfl (lv_at hl 0 rfl) ?_
  refine lv_bipush (v := 12) hC.1 hC.2.1 dk_Model_201 (by decide) ?_
  refine kr_newI hC hW (N := 12) mw_ai (by decide) (by decide) (by decide) (by exact Nat.le_of_ble_eq_true rfl) (by exact Nat.le_of_ble_eq_true rfl) dk_Model_203 (fun q203 H hW => ?_)
  refine kr_putF (b := 33) (w1 := 1213) (v := .ref q203) (ty := (.array .int)) (nm := "siteY") (ds := "[I") (N := 50) hC hin hW rfl (by decide +kernel) (by decide) (by decide +kernel) (by decide +kernel) rfl rfl (by exact Nat.le_of_ble_eq_true rfl) dk_Model_205 (fun H locs hW => ?_)
  obtain ⟨T23, eT23⟩ : ∃ z, z = T22 ++ [(q203, .inl (cs.1, 12, .inl fun _ => 0))] := ⟨_, rfl⟩
  have hW : Wn D cs A ((h0, .inr (12, [.int 0, .ref q8, .ref q17, .int 0, .ref q25, .ref q33, .ref q41, .int 0, .ref q49, .int 0, .ref q58, .ref q67, .ref q76, .ref q85, .ref q92, .ref q99, .int 60, .int 500, .int 0, .ref q121, .int 0, .ref q129, .int 0, .ref q137, .ref q146, .ref q154, .int 0, .ref q162, .ref q171, .ref q179, .ref q187, .int 0, .ref q195, .ref q203, .int 0, .null, .null, .null, .int 0, .null, .null, .int 0, .null, .null, .null, .null, .null, .null, .null, .int 0])) :: (T22 ++ [(q203, .inl (cs.1, 12, .inl fun _ => 0))])) s H locs := hW
  rw [← eT23] at hW
  refine lv_aload_n hC.1 hC.2.1 dk_Model_208 rfl (lv_at hl 0 rfl) ?_
  refine lv_bipush (v := 40) hC.1 hC.2.1 dk_Model_209 (by decide) ?_
  refine kr_newI hC hW (N := 40) mw_ai (by decide) (by decide) (by decide) (by exact Nat.le_of_ble_eq_true rfl) (by exact Nat.le_of_ble_eq_true rfl) dk_Model_211 (fun q211 H hW => ?_)
  refine kr_putF (b := 35) (w1 := 1215) (v := .ref q211) (ty := (.array .int)) (nm := "wishX") (ds := "[I") (N := 50) hC hin hW rfl (by decide +kernel) (by decide) (by decide +kernel) (by decide +kernel) rfl rfl (by exact Nat.le_of_ble_eq_true rfl) dk_Model_213 (fun H locs hW => ?_)
  obtain ⟨T24, eT24⟩ : ∃ z, z = T23 ++ [(q211, .inl (cs.1, 40, .inl fun _ => 0))] := ⟨_, rfl⟩
  have hW : Wn D cs A ((h0, .inr (12, [.int 0, .ref q8, .ref q17, .int 0, .ref q25, .ref q33, .ref q41, .int 0, .ref q49, .int 0, .ref q58, .ref q67, .ref q76, .ref q85, .ref q92, .ref q99, .int 60, .int 500, .int 0, .ref q121, .int 0, .ref q129, .int 0, .ref q137, .ref q146, .ref q154, .int 0, .ref q162, .ref q171, .ref q179, .ref q187, .int 0, .ref q195, .ref q203, .int 0, .ref q211, .null, .null, .int 0, .null, .null, .int 0, .null, .null, .null, .null, .null, .null, .null, .int 0])) :: (T23 ++ [(q211, .inl (cs.1, 40, .inl fun _ => 0))])) s H locs := hW
  rw [← eT24] at hW
  refine lv_aload_n hC.1 hC.2.1 dk_Model_216 rfl (lv_at hl 0 rfl) ?_
  refine lv_bipush (v := 40) hC.1 hC.2.1 dk_Model_217 (by decide) ?_
  refine kr_newI hC hW (N := 40) mw_ai (by decide) (by decide) (by decide) (by exact Nat.le_of_ble_eq_true rfl) (by exact Nat.le_of_ble_eq_true rfl) dk_Model_219 (fun q219 H hW => ?_)
  refine kr_putF (b := 36) (w1 := 1216) (v := .ref q219) (ty := (.array .int)) (nm := "wishY") (ds := "[I") (N := 50) hC hin hW rfl (by decide +kernel) (by decide) (by decide +kernel) (by decide +kernel) rfl rfl (by exact Nat.le_of_ble_eq_true rfl) dk_Model_221 (fun H locs hW => ?_)
  obtain ⟨T25, eT25⟩ : ∃ z, z = T24 ++ [(q219, .inl (cs.1, 40, .inl fun _ => 0))] := ⟨_, rfl⟩
  have hW : Wn D cs A ((h0, .inr (12, [.int 0, .ref q8, .ref q17, .int 0, .ref q25, .ref q33, .ref q41, .int 0, .ref q49, .int 0, .ref q58, .ref q67, .ref q76, .ref q85, .ref q92, .ref q99, .int 60, .int 500, .int 0, .ref q121, .int 0, .ref q129, .int 0, .ref q137, .ref q146, .ref q154, .int 0, .ref q162, .ref q171, .ref q179, .ref q187, .int 0, .ref q195, .ref q203, .int 0, .ref q211, .ref q219, .null, .int 0, .null, .null, .int 0, .null, .null, .null, .null, .null, .null, .null, .int 0])) :: (T24 ++ [(q219, .inl (cs.1, 40, .inl fun _ => 0))])) s H locs := hW
  rw [← eT25] at hW
  refine lv_aload_n hC.1 hC.2.1 dk_Model_224 rfl (lv_at hl 0 rfl) ?_
  refine lv_bipush (v := 40) hC.1 hC.2.1 dk_Model_225 (by decide) ?_
  refine kr_newI hC hW (N := 40) mw_ai (by decide) (by decide) (by decide) (by exact Nat.le_of_ble_eq_true rfl) (by exact Nat.le_of_ble_eq_true rfl) dk_Model_227 (fun q227 H hW => ?_)
  refine kr_putF (b := 37) (w1 := 1217) (v := .ref q227) (ty := (.array .int)) (nm := "wishMany") (ds := "[I") (N := 50) hC hin hW rfl (by decide +kernel) (by decide) (by decide +kernel) (by decide +kernel) rfl rfl (by exact Nat.le_of_ble_eq_true rfl) dk_Model_229 (fun H locs hW => ?_)
  obtain ⟨T26, eT26⟩ : ∃ z, z = T25 ++ [(q227, .inl (cs.1, 40, .inl fun _ => 0))] := ⟨_, rfl⟩
  have hW : Wn D cs A ((h0, .inr (12, [.int 0, .ref q8, .ref q17, .int 0, .ref q25, .ref q33, .ref q41, .int 0, .ref q49, .int 0, .ref q58, .ref q67, .ref q76, .ref q85, .ref q92, .ref q99, .int 60, .int 500, .int 0, .ref q121, .int 0, .ref q129, .int 0, .ref q137, .ref q146, .ref q154, .int 0, .ref q162, .ref q171, .ref q179, .ref q187, .int 0, .ref q195, .ref q203, .int 0, .ref q211, .ref q219, .ref q227, .int 0, .null, .null, .int 0, .null, .null, .null, .null, .null, .null, .null, .int 0])) :: (T25 ++ [(q227, .inl (cs.1, 40, .inl fun _ => 0))])) s H locs := hW
  rw [← eT26] at hW
  refine lv_aload_n hC.1 hC.2.1 dk_Model_232 rfl (lv_at hl 0 rfl) ?_
  refine lv_bipush (v := 60) hC.1 hC.2.1 dk_Model_233 (by decide) ?_
  refine kr_newI hC hW (N := 60) mw_ai (by decide) (by decide) (by decide) (by exact Nat.le_of_ble_eq_true rfl) (by exact Nat.le_of_ble_eq_true rfl) dk_Model_235 (fun q235 H hW => ?_)
  refine kr_putF (b := 39) (w1 := 1219) (v := .ref q235) (ty := (.array .int)) (nm := "score") (ds := "[I") (N := 50) hC hin hW rfl (by decide +kernel) (by decide) (by decide +kernel) (by decide +kernel) rfl rfl (by exact Nat.le_of_ble_eq_true rfl) dk_Model_237 (fun H locs hW => ?_)
  obtain ⟨T27, eT27⟩ : ∃ z, z = T26 ++ [(q235, .inl (cs.1, 60, .inl fun _ => 0))] := ⟨_, rfl⟩
  have hW : Wn D cs A ((h0, .inr (12, [.int 0, .ref q8, .ref q17, .int 0, .ref q25, .ref q33, .ref q41, .int 0, .ref q49, .int 0, .ref q58, .ref q67, .ref q76, .ref q85, .ref q92, .ref q99, .int 60, .int 500, .int 0, .ref q121, .int 0, .ref q129, .int 0, .ref q137, .ref q146, .ref q154, .int 0, .ref q162, .ref q171, .ref q179, .ref q187, .int 0, .ref q195, .ref q203, .int 0, .ref q211, .ref q219, .ref q227, .int 0, .ref q235, .null, .int 0, .null, .null, .null, .null, .null, .null, .null, .int 0])) :: (T26 ++ [(q235, .inl (cs.1, 60, .inl fun _ => 0))])) s H locs := hW
  rw [← eT27] at hW
  refine lv_aload_n hC.1 hC.2.1 dk_Model_240 rfl (lv_at hl 0 rfl) ?_
  refine lv_bipush (v := 60) hC.1 hC.2.1 dk_Model_241 (by decide) ?_
  refine kr_newB hC hW (N := 60) mw_az (by decide) (by decide) (by decide) (by exact Nat.le_of_ble_eq_true rfl) (by exact Nat.le_of_ble_eq_true rfl) dk_Model_243 (fun q243 H hW => ?_)
  refine kr_putF (b := 40) (w1 := 1220) (v := .ref q243) (ty := (.array .boolean)) (nm := "isFaulty") (ds := "[Z") (N := 50) hC hin hW rfl (by decide +kernel) (by decide) (by decide +kernel) (by decide +kernel) rfl rfl (by exact Nat.le_of_ble_eq_true rfl) dk_Model_245 (fun H locs hW => ?_)
  obtain ⟨T28, eT28⟩ : ∃ z, z = T27 ++ [(q243, .inl (cs.2.1, 60, .inl fun _ => 0))] := ⟨_, rfl⟩
  have hW : Wn D cs A ((h0, .inr (12, [.int 0, .ref q8, .ref q17, .int 0, .ref q25, .ref q33, .ref q41, .int 0, .ref q49, .int 0, .ref q58, .ref q67, .ref q76, .ref q85, .ref q92, .ref q99, .int 60, .int 500, .int 0, .ref q121, .int 0, .ref q129, .int 0, .ref q137, .ref q146, .ref q154, .int 0, .ref q162, .ref q171, .ref q179, .ref q187, .int 0, .ref q195, .ref q203, .int 0, .ref q211, .ref q219, .ref q227, .int 0, .ref q235, .ref q243, .int 0, .null, .null, .null, .null, .null, .null, .null, .int 0])) :: (T27 ++ [(q243, .inl (cs.2.1, 60, .inl fun _ => 0))])) s H locs := hW
  rw [← eT28] at hW
  refine lv_aload_n hC.1 hC.2.1 dk_Model_248 rfl (lv_at hl 0 rfl) ?_
  refine lv_bipush (v := 60) hC.1 hC.2.1 dk_Model_249 (by decide) ?_
  refine kr_newI hC hW (N := 60) mw_ai (by decide) (by decide) (by decide) (by exact Nat.le_of_ble_eq_true rfl) (by exact Nat.le_of_ble_eq_true rfl) dk_Model_251 (fun q251 H hW => ?_)
  refine kr_putF (b := 42) (w1 := 1222) (v := .ref q251) (ty := (.array .int)) (nm := "values") (ds := "[I") (N := 50) hC hin hW rfl (by decide +kernel) (by decide) (by decide +kernel) (by decide +kernel) rfl rfl (by exact Nat.le_of_ble_eq_true rfl) dk_Model_253 (fun H locs hW => ?_)
  obtain ⟨T29, eT29⟩ : ∃ z, z = T28 ++ [(q251, .inl (cs.1, 60, .inl fun _ => 0))] := ⟨_, rfl⟩
  have hW : Wn D cs A ((h0, .inr (12, [.int 0, .ref q8, .ref q17, .int 0, .ref q25, .ref q33, .ref q41, .int 0, .ref q49, .int 0, .ref q58, .ref q67, .ref q76, .ref q85, .ref q92, .ref q99, .int 60, .int 500, .int 0, .ref q121, .int 0, .ref q129, .int 0, .ref q137, .ref q146, .ref q154, .int 0, .ref q162, .ref q171, .ref q179, .ref q187, .int 0, .ref q195, .ref q203, .int 0, .ref q211, .ref q219, .ref q227, .int 0, .ref q235, .ref q243, .int 0, .ref q251, .null, .null, .null, .null, .null, .null, .int 0])) :: (T28 ++ [(q251, .inl (cs.1, 60, .inl fun _ => 0))])) s H locs := hW
  rw [← eT29] at hW
  refine lv_aload_n hC.1 hC.2.1 dk_Model_256 rfl (lv_at hl 0 rfl) ?_
  refine lv_bipush (v := 60) hC.1 hC.2.1 dk_Model_257 (by decide) ?_
  refine kr_newI hC hW (N := 60) mw_ai (by decide) (by decide) (by decide) (by exact Nat.le_of_ble_eq_true rfl) (by exact Nat.le_of_ble_eq_true rfl) dk_Model_259 (fun q259 H hW => ?_)
  refine kr_putF (b := 43) (w1 := 1223) (v := .ref q259) (ty := (.array .int)) (nm := "signs") (ds := "[I") (N := 50) hC hin hW rfl (by decide +kernel) (by decide) (by decide +kernel) (by decide +kernel) rfl rfl (by exact Nat.le_of_ble_eq_true rfl) dk_Model_261 (fun H locs hW => ?_)
  obtain ⟨T30, eT30⟩ : ∃ z, z = T29 ++ [(q259, .inl (cs.1, 60, .inl fun _ => 0))] := ⟨_, rfl⟩
  have hW : Wn D cs A ((h0, .inr (12, [.int 0, .ref q8, .ref q17, .int 0, .ref q25, .ref q33, .ref q41, .int 0, .ref q49, .int 0, .ref q58, .ref q67, .ref q76, .ref q85, .ref q92, .ref q99, .int 60, .int 500, .int 0, .ref q121, .int 0, .ref q129, .int 0, .ref q137, .ref q146, .ref q154, .int 0, .ref q162, .ref q171, .ref q179, .ref q187, .int 0, .ref q195, .ref q203, .int 0, .ref q211, .ref q219, .ref q227, .int 0, .ref q235, .ref q243, .int 0, .ref q251, .ref q259, .null, .null, .null, .null, .null, .int 0])) :: (T29 ++ [(q259, .inl (cs.1, 60, .inl fun _ => 0))])) s H locs := hW
  rw [← eT30] at hW
  refine lv_aload_n hC.1 hC.2.1 dk_Model_264 rfl (lv_at hl 0 rfl) ?_
  refine lv_bipush (v := 12) hC.1 hC.2.1 dk_Model_265 (by decide) ?_
  refine kr_newI hC hW (N := 12) mw_ai (by decide) (by decide) (by decide) (by exact Nat.le_of_ble_eq_true rfl) (by exact Nat.le_of_ble_eq_true rfl) dk_Model_267 (fun q267 H hW => ?_)
  refine kr_putF (b := 44) (w1 := 1224) (v := .ref q267) (ty := (.array .int)) (nm := "waiting") (ds := "[I") (N := 50) hC hin hW rfl (by decide +kernel) (by decide) (by decide +kernel) (by decide +kernel) rfl rfl (by exact Nat.le_of_ble_eq_true rfl) dk_Model_269 (fun H locs hW => ?_)
  obtain ⟨T31, eT31⟩ : ∃ z, z = T30 ++ [(q267, .inl (cs.1, 12, .inl fun _ => 0))] := ⟨_, rfl⟩
  have hW : Wn D cs A ((h0, .inr (12, [.int 0, .ref q8, .ref q17, .int 0, .ref q25, .ref q33, .ref q41, .int 0, .ref q49, .int 0, .ref q58, .ref q67, .ref q76, .ref q85, .ref q92, .ref q99, .int 60, .int 500, .int 0, .ref q121, .int 0, .ref q129, .int 0, .ref q137, .ref q146, .ref q154, .int 0, .ref q162, .ref q171, .ref q179, .ref q187, .int 0, .ref q195, .ref q203, .int 0, .ref q211, .ref q219, .ref q227, .int 0, .ref q235, .ref q243, .int 0, .ref q251, .ref q259, .ref q267, .null, .null, .null, .null, .int 0])) :: (T30 ++ [(q267, .inl (cs.1, 12, .inl fun _ => 0))])) s H locs := hW
  rw [← eT31] at hW
  refine lv_aload_n hC.1 hC.2.1 dk_Model_272 rfl (lv_at hl 0 rfl) ?_
  refine lv_bipush (v := 8) hC.1 hC.2.1 dk_Model_273 (by decide) ?_
  refine kr_newI hC hW (N := 8) mw_ai (by decide) (by decide) (by decide) (by exact Nat.le_of_ble_eq_true rfl) (by exact Nat.le_of_ble_eq_true rfl) dk_Model_275 (fun q275 H hW => ?_)
  refine kr_putF (b := 45) (w1 := 1225) (v := .ref q275) (ty := (.array .int)) (nm := "chosen") (ds := "[I") (N := 50) hC hin hW rfl (by decide +kernel) (by decide) (by decide +kernel) (by decide +kernel) rfl rfl (by exact Nat.le_of_ble_eq_true rfl) dk_Model_277 (fun H locs hW => ?_)
  obtain ⟨T32, eT32⟩ : ∃ z, z = T31 ++ [(q275, .inl (cs.1, 8, .inl fun _ => 0))] := ⟨_, rfl⟩
  have hW : Wn D cs A ((h0, .inr (12, [.int 0, .ref q8, .ref q17, .int 0, .ref q25, .ref q33, .ref q41, .int 0, .ref q49, .int 0, .ref q58, .ref q67, .ref q76, .ref q85, .ref q92, .ref q99, .int 60, .int 500, .int 0, .ref q121, .int 0, .ref q129, .int 0, .ref q137, .ref q146, .ref q154, .int 0, .ref q162, .ref q171, .ref q179, .ref q187, .int 0, .ref q195, .ref q203, .int 0, .ref q211, .ref q219, .ref q227, .int 0, .ref q235, .ref q243, .int 0, .ref q251, .ref q259, .ref q267, .ref q275, .null, .null, .null, .int 0])) :: (T31 ++ [(q275, .inl (cs.1, 8, .inl fun _ => 0))])) s H locs := hW
  rw [← eT32] at hW
  refine lv_aload_n hC.1 hC.2.1 dk_Model_280 rfl (lv_at hl 0 rfl) ?_
  refine lv_sipush (v := 2304) hC.1 hC.2.1 dk_Model_281 (by decide) ?_
  refine kr_newI hC hW (N := 2304) mw_ai (by decide) (by decide) (by decide) (by exact Nat.le_of_ble_eq_true rfl) (by exact Nat.le_of_ble_eq_true rfl) dk_Model_284 (fun q284 H hW => ?_)
  refine kr_putF (b := 46) (w1 := 1226) (v := .ref q284) (ty := (.array .int)) (nm := "costs") (ds := "[I") (N := 50) hC hin hW rfl (by decide +kernel) (by decide) (by decide +kernel) (by decide +kernel) rfl rfl (by exact Nat.le_of_ble_eq_true rfl) dk_Model_286 (fun H locs hW => ?_)
  obtain ⟨T33, eT33⟩ : ∃ z, z = T32 ++ [(q284, .inl (cs.1, 2304, .inl fun _ => 0))] := ⟨_, rfl⟩
  have hW : Wn D cs A ((h0, .inr (12, [.int 0, .ref q8, .ref q17, .int 0, .ref q25, .ref q33, .ref q41, .int 0, .ref q49, .int 0, .ref q58, .ref q67, .ref q76, .ref q85, .ref q92, .ref q99, .int 60, .int 500, .int 0, .ref q121, .int 0, .ref q129, .int 0, .ref q137, .ref q146, .ref q154, .int 0, .ref q162, .ref q171, .ref q179, .ref q187, .int 0, .ref q195, .ref q203, .int 0, .ref q211, .ref q219, .ref q227, .int 0, .ref q235, .ref q243, .int 0, .ref q251, .ref q259, .ref q267, .ref q275, .ref q284, .null, .null, .int 0])) :: (T32 ++ [(q284, .inl (cs.1, 2304, .inl fun _ => 0))])) s H locs := hW
  rw [← eT33] at hW
  refine lv_aload_n hC.1 hC.2.1 dk_Model_289 rfl (lv_at hl 0 rfl) ?_
  refine lv_bipush (v := 50) hC.1 hC.2.1 dk_Model_290 (by decide) ?_
  refine kr_newB hC hW (N := 50) mw_az (by decide) (by decide) (by decide) (by exact Nat.le_of_ble_eq_true rfl) (by exact Nat.le_of_ble_eq_true rfl) dk_Model_292 (fun q292 H hW => ?_)
  refine kr_putF (b := 47) (w1 := 1227) (v := .ref q292) (ty := (.array .boolean)) (nm := "isMet") (ds := "[Z") (N := 50) hC hin hW rfl (by decide +kernel) (by decide) (by decide +kernel) (by decide +kernel) rfl rfl (by exact Nat.le_of_ble_eq_true rfl) dk_Model_294 (fun H locs hW => ?_)
  obtain ⟨T34, eT34⟩ : ∃ z, z = T33 ++ [(q292, .inl (cs.2.1, 50, .inl fun _ => 0))] := ⟨_, rfl⟩
  have hW : Wn D cs A ((h0, .inr (12, [.int 0, .ref q8, .ref q17, .int 0, .ref q25, .ref q33, .ref q41, .int 0, .ref q49, .int 0, .ref q58, .ref q67, .ref q76, .ref q85, .ref q92, .ref q99, .int 60, .int 500, .int 0, .ref q121, .int 0, .ref q129, .int 0, .ref q137, .ref q146, .ref q154, .int 0, .ref q162, .ref q171, .ref q179, .ref q187, .int 0, .ref q195, .ref q203, .int 0, .ref q211, .ref q219, .ref q227, .int 0, .ref q235, .ref q243, .int 0, .ref q251, .ref q259, .ref q267, .ref q275, .ref q284, .ref q292, .null, .int 0])) :: (T33 ++ [(q292, .inl (cs.2.1, 50, .inl fun _ => 0))])) s H locs := hW
  rw [← eT34] at hW
  refine lv_aload_n hC.1 hC.2.1 dk_Model_297 rfl (lv_at hl 0 rfl) ?_
  refine lv_bipush (v := 8) hC.1 hC.2.1 dk_Model_298 (by decide) ?_
  refine kr_newI hC hW (N := 8) mw_ai (by decide) (by decide) (by decide) (by exact Nat.le_of_ble_eq_true rfl) (by exact Nat.le_of_ble_eq_true rfl) dk_Model_300 (fun q300 H hW => ?_)
  refine kr_putF (b := 48) (w1 := 1228) (v := .ref q300) (ty := (.array .int)) (nm := "order") (ds := "[I") (N := 50) hC hin hW rfl (by decide +kernel) (by decide) (by decide +kernel) (by decide +kernel) rfl rfl (by exact Nat.le_of_ble_eq_true rfl) dk_Model_302 (fun H locs hW => ?_)
  obtain ⟨T35, eT35⟩ : ∃ z, z = T34 ++ [(q300, .inl (cs.1, 8, .inl fun _ => 0))] := ⟨_, rfl⟩
  have hW : Wn D cs A ((h0, .inr (12, [.int 0, .ref q8, .ref q17, .int 0, .ref q25, .ref q33, .ref q41, .int 0, .ref q49, .int 0, .ref q58, .ref q67, .ref q76, .ref q85, .ref q92, .ref q99, .int 60, .int 500, .int 0, .ref q121, .int 0, .ref q129, .int 0, .ref q137, .ref q146, .ref q154, .int 0, .ref q162, .ref q171, .ref q179, .ref q187, .int 0, .ref q195, .ref q203, .int 0, .ref q211, .ref q219, .ref q227, .int 0, .ref q235, .ref q243, .int 0, .ref q251, .ref q259, .ref q267, .ref q275, .ref q284, .ref q292, .ref q300, .int 0])) :: (T34 ++ [(q300, .inl (cs.1, 8, .inl fun _ => 0))])) s H locs := hW
  rw [← eT35] at hW
  obtain ⟨a, hh, hE⟩ := hE_T cs h0 q8 q17 q25 q33 q41 q49 q58 q67 q76 q85 q92 q99 q121 q129 q137 q146 q154 q162 q171 q179 q187 q195 q203 q211 q219 q227 q235 q243 q251 q259 q267 q275 q284 q292 q300 eT1 eT2 eT3 eT4 eT5 eT6 eT7 eT8 eT9 eT10 eT11 eT12 eT13 eT14 eT15 eT16 eT17 eT18 eT19 eT20 eT21 eT22 eT23 eT24 eT25 eT26 eT27 eT28 eT29 eT30 eT31 eT32 eT33 eT34 eT35
  have hW := Wn_eq hE hW
  rw [← hh] at hl
  refine k_ModelB hC hW hl (by exact Nat.le_of_ble_eq_true rfl) (by exact Nat.le_of_ble_eq_true rfl) (by exact Nat.le_of_ble_eq_true rfl) (by exact Nat.le_of_ble_eq_true rfl) (fun τ H locs ls hA hW => ?_)
  refine W.widen (k := 35) (n := 57140) (by exact Nat.le_of_ble_eq_true rfl) (by exact Nat.le_of_ble_eq_true rfl) ?_
  exact W.vret hC.1 hC.2.1 hr (fun t ht hWm => ⟨⟨_, rfl, ⟨a, τ, hh, hA, rfl⟩, by rw [ht]; exact hW.1.1, va_K.moved hWm.alike hW.1.2.1.1, hW.1.2.2⟩, hW.2.1.F ht⟩) hW.2.1.2.2 dk_Model_337
