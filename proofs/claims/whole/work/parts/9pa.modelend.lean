/-! The model's maker, behind its rows: the numbers of the kinds, and the first day. -/
section ModelEnd
variable {p : Program} {l : Launch} {e : Env} {R : Room} {s : State} {m : MethodId} {args : Array Value} {below : List Frame} {meth : Method} {c : Code} {H : Heap} {locs : List Loc} {cells slots : Nat} {Q : State → Prop}
variable {D : va_G} {cs : Cs} {A : Nat → Prop} {ls : Array Slot}
theorem k_ModelB (hC : Cw "BikeTownModel" prog_14_method_1_code 2 p s m args c) {a : Ad} (hW : Wn D cs A (conc true cs a tM1) s H locs) (hl : lv_has ls 2 [(0, .ref (a 69 false 0))]) (hf : 2 ≤ R.frames) (hlo : 114 ≤ R.locals) (hc : cells ≤ R.cells) (hs : slots ≤ R.slots)
    (kk : ∀ (τ : Sg) (H1 : Heap) (locs1 : List Loc) (ls1 : Array Slot), Ag tM0 (bgn tM0 tD0) τ → Wn D cs A (conc true cs a τ) s H1 locs1 → W p l e R s m args below meth c H1 locs1 cells slots Q (F0 m 337 ls1 [])) : W p l e R s m args below meth c H locs cells slots Q (F0 m 305 ls []) := by
  refine lv_iconst (v := 0) hC.1 hC.2.1 dk_Model_305 (by decide) ?_
  refine lv_istore_n hC.1 hC.2.1 dk_Model_306 rfl hl (by decide) rfl (fun ls hl => ?_)
  have hl : lv_has ls 2 [(1, .int 0), (0, .ref (a 69 false 0))] := hl
  refine lv_iload_n hC.1 hC.2.1 dk_Model_307 rfl (lv_at hl 0 rfl) ?_
  refine lv_iconst (v := 4) hC.1 hC.2.1 dk_Model_308 (by decide) ?_
  refine lv_icmp_ge hC.1 hC.2.1 dk_Model_309 (tgt := 333) (by decide) (fun h => absurd h (by decide)) (fun _ => ?_)
  refine lv_aload_n hC.1 hC.2.1 dk_Model_312 rfl (lv_at hl 1 rfl) ?_
  refine kr_get (b := 14) (w1 := 1194) (v := .ref (a 80 false 0)) (nm := "limit") (ds := "[I") (N := 50) (fin := true) hC hW (conc_M0 cs a _) (by decide +kernel) (by decide) (by decide +kernel) rfl dk_Model_313 ?_
  refine lv_iload_n hC.1 hC.2.1 dk_Model_316 rfl (lv_at hl 0 rfl) ?_
  refine lv_bipush (v := 20) hC.1 hC.2.1 dk_Model_317 (by decide) ?_
  refine kr_iast hC hW (k := 80) (N := 4) (by decide +kernel) (fun _ => rfl) (by unfold vp_in; decide) dk_Model_319 (fun H locs hW => ?_)
  have hW : Wn D cs A (conc true cs a (up4 tM1 80 false 0 0 20)) s H locs := hW
  refine lv_aload_n hC.1 hC.2.1 dk_Model_320 rfl (lv_at hl 1 rfl) ?_
  refine kr_get (b := 15) (w1 := 1195) (v := .ref (a 81 false 0)) (nm := "patience") (ds := "[I") (N := 50) (fin := true) hC hW (conc_M0 cs a _) (by decide +kernel) (by decide) (by decide +kernel) rfl dk_Model_321 ?_
  refine lv_iload_n hC.1 hC.2.1 dk_Model_324 rfl (lv_at hl 0 rfl) ?_
  refine lv_iconst (v := 5) hC.1 hC.2.1 dk_Model_325 (by decide) ?_
  refine kr_iast hC hW (k := 81) (N := 4) (by decide +kernel) (fun _ => rfl) (by unfold vp_in; decide) dk_Model_326 (fun H locs hW => ?_)
  have hW : Wn D cs A (conc true cs a (up4 (up4 tM1 80 false 0 0 20) 81 false 0 0 5)) s H locs := hW
  refine lv_iinc (k := 0) (v := 1) hC.1 hC.2.1 dk_Model_327 hl rfl (by decide) (by decide) rfl (fun ls hl => ?_)
  have hl : lv_has ls 2 [(1, .int 1), (0, .ref (a 69 false 0))] := hl
  refine lv_goto hC.1 hC.2.1 dk_Model_330 (tgt := 307) (by decide) ?_
  refine lv_iload_n hC.1 hC.2.1 dk_Model_307 rfl (lv_at hl 0 rfl) ?_
  refine lv_iconst (v := 4) hC.1 hC.2.1 dk_Model_308 (by decide) ?_
  refine lv_icmp_ge hC.1 hC.2.1 dk_Model_309 (tgt := 333) (by decide) (fun h => absurd h (by decide)) (fun _ => ?_)
  refine lv_aload_n hC.1 hC.2.1 dk_Model_312 rfl (lv_at hl 1 rfl) ?_
  refine kr_get (b := 14) (w1 := 1194) (v := .ref (a 80 false 0)) (nm := "limit") (ds := "[I") (N := 50) (fin := true) hC hW (conc_M0 cs a _) (by decide +kernel) (by decide) (by decide +kernel) rfl dk_Model_313 ?_
  refine lv_iload_n hC.1 hC.2.1 dk_Model_316 rfl (lv_at hl 0 rfl) ?_
  refine lv_bipush (v := 20) hC.1 hC.2.1 dk_Model_317 (by decide) ?_
  refine kr_iast hC hW (k := 80) (N := 4) (by decide +kernel) (fun _ => rfl) (by unfold vp_in; decide) dk_Model_319 (fun H locs hW => ?_)
  have hW : Wn D cs A (conc true cs a (up4 (up4 (up4 tM1 80 false 0 0 20) 81 false 0 0 5) 80 false 0 1 20)) s H locs := hW
  refine lv_aload_n hC.1 hC.2.1 dk_Model_320 rfl (lv_at hl 1 rfl) ?_
  refine kr_get (b := 15) (w1 := 1195) (v := .ref (a 81 false 0)) (nm := "patience") (ds := "[I") (N := 50) (fin := true) hC hW (conc_M0 cs a _) (by decide +kernel) (by decide) (by decide +kernel) rfl dk_Model_321 ?_
  refine lv_iload_n hC.1 hC.2.1 dk_Model_324 rfl (lv_at hl 0 rfl) ?_
  refine lv_iconst (v := 5) hC.1 hC.2.1 dk_Model_325 (by decide) ?_
  refine kr_iast hC hW (k := 81) (N := 4) (by decide +kernel) (fun _ => rfl) (by unfold vp_in; decide) dk_Model_326 (fun H locs hW => ?_)
  have hW : Wn D cs A (conc true cs a (up4 (up4 (up4 (up4 tM1 80 false 0 0 20) 81 false 0 0 5) 80 false 0 1 20) 81 false 0 1 5)) s H locs := hW
  refine lv_iinc (k := 0) (v := 2) hC.1 hC.2.1 dk_Model_327 hl rfl (by decide) (by decide) rfl (fun ls hl => ?_)
  have hl : lv_has ls 2 [(1, .int 2), (0, .ref (a 69 false 0))] := hl
  refine lv_goto hC.1 hC.2.1 dk_Model_330 (tgt := 307) (by decide) ?_
  refine lv_iload_n hC.1 hC.2.1 dk_Model_307 rfl (lv_at hl 0 rfl) ?_
  refine lv_iconst (v := 4) hC.1 hC.2.1 dk_Model_308 (by decide) ?_
  refine lv_icmp_ge hC.1 hC.2.1 dk_Model_309 (tgt := 333) (by decide) (fun h => absurd h (by decide)) (fun _ => ?_)
  refine lv_aload_n hC.1 hC.2.1 dk_Model_312 rfl (lv_at hl 1 rfl) ?_
  refine kr_get (b := 14) (w1 := 1194) (v := .ref (a 80 false 0)) (nm := "limit") (ds := "[I") (N := 50) (fin := true) hC hW (conc_M0 cs a _) (by decide +kernel) (by decide) (by decide +kernel) rfl dk_Model_313 ?_
  refine lv_iload_n hC.1 hC.2.1 dk_Model_316 rfl (lv_at hl 0 rfl) ?_
  refine lv_bipush (v := 20) hC.1 hC.2.1 dk_Model_317 (by decide) ?_
  refine kr_iast hC hW (k := 80) (N := 4) (by decide +kernel) (fun _ => rfl) (by unfold vp_in; decide) dk_Model_319 (fun H locs hW => ?_)
  have hW : Wn D cs A (conc true cs a (up4 (up4 (up4 (up4 (up4 tM1 80 false 0 0 20) 81 false 0 0 5) 80 false 0 1 20) 81 false 0 1 5) 80 false 0 2 20)) s H locs := hW
  refine lv_aload_n hC.1 hC.2.1 dk_Model_320 rfl (lv_at hl 1 rfl) ?_
  refine kr_get (b := 15) (w1 := 1195) (v := .ref (a 81 false 0)) (nm := "patience") (ds := "[I") (N := 50) (fin := true) hC hW (conc_M0 cs a _) (by decide +kernel) (by decide) (by decide +kernel) rfl dk_Model_321 ?_
  refine lv_iload_n hC.1 hC.2.1 dk_Model_324 rfl (lv_at hl 0 rfl) ?_
  refine lv_iconst (v := 5) hC.1 hC.2.1 dk_Model_325 (by decide) ?_
  refine kr_iast hC hW (k := 81) (N := 4) (by decide +kernel) (fun _ => rfl) (by unfold vp_in; decide) dk_Model_326 (fun H locs hW => ?_)
  have hW : Wn D cs A (conc true cs a (up4 (up4 (up4 (up4 (up4 (up4 tM1 80 false 0 0 20) 81 false 0 0 5) 80 false 0 1 20) 81 false 0 1 5) 80 false 0 2 20) 81 false 0 2 5)) s H locs := hW
  refine lv_iinc (k := 0) (v := 3) hC.1 hC.2.1 dk_Model_327 hl rfl (by decide) (by decide) rfl (fun ls hl => ?_)
  have hl : lv_has ls 2 [(1, .int 3), (0, .ref (a 69 false 0))] := hl
  refine lv_goto hC.1 hC.2.1 dk_Model_330 (tgt := 307) (by decide) ?_
  refine lv_iload_n hC.1 hC.2.1 dk_Model_307 rfl (lv_at hl 0 rfl) ?_
  refine lv_iconst (v := 4) hC.1 hC.2.1 dk_Model_308 (by decide) ?_
  refine lv_icmp_ge hC.1 hC.2.1 dk_Model_309 (tgt := 333) (by decide) (fun h => absurd h (by decide)) (fun _ => ?_)
  refine lv_aload_n hC.1 hC.2.1 dk_Model_312 rfl (lv_at hl 1 rfl) ?_
  refine kr_get (b := 14) (w1 := 1194) (v := .ref (a 80 false 0)) (nm := "limit") (ds := "[I") (N := 50) (fin := true) hC hW (conc_M0 cs a _) (by decide +kernel) (by decide) (by decide +kernel) rfl dk_Model_313 ?_
  refine lv_iload_n hC.1 hC.2.1 dk_Model_316 rfl (lv_at hl 0 rfl) ?_
  refine lv_bipush (v := 20) hC.1 hC.2.1 dk_Model_317 (by decide) ?_
  refine kr_iast hC hW (k := 80) (N := 4) (by decide +kernel) (fun _ => rfl) (by unfold vp_in; decide) dk_Model_319 (fun H locs hW => ?_)
  have hW : Wn D cs A (conc true cs a (up4 (up4 (up4 (up4 (up4 (up4 (up4 tM1 80 false 0 0 20) 81 false 0 0 5) 80 false 0 1 20) 81 false 0 1 5) 80 false 0 2 20) 81 false 0 2 5) 80 false 0 3 20)) s H locs := hW
  refine lv_aload_n hC.1 hC.2.1 dk_Model_320 rfl (lv_at hl 1 rfl) ?_
  refine kr_get (b := 15) (w1 := 1195) (v := .ref (a 81 false 0)) (nm := "patience") (ds := "[I") (N := 50) (fin := true) hC hW (conc_M0 cs a _) (by decide +kernel) (by decide) (by decide +kernel) rfl dk_Model_321 ?_
  refine lv_iload_n hC.1 hC.2.1 dk_Model_324 rfl (lv_at hl 0 rfl) ?_
  refine lv_iconst (v := 5) hC.1 hC.2.1 dk_Model_325 (by decide) ?_
  refine kr_iast hC hW (k := 81) (N := 4) (by decide +kernel) (fun _ => rfl) (by unfold vp_in; decide) dk_Model_326 (fun H locs hW => ?_)
  have hW : Wn D cs A (conc true cs a (up4 (up4 (up4 (up4 (up4 (up4 (up4 (up4 tM1 80 false 0 0 20) 81 false 0 0 5) 80 false 0 1 20) 81 false 0 1 5) 80 false 0 2 20) 81 false 0 2 5) 80 false 0 3 20) 81 false 0 3 5)) s H locs := hW
  refine lv_iinc (k := 0) (v := 4) hC.1 hC.2.1 dk_Model_327 hl rfl (by decide) (by decide) rfl (fun ls hl => ?_)
  have hl : lv_has ls 2 [(1, .int 4), (0, .ref (a 69 false 0))] := hl
  refine lv_goto hC.1 hC.2.1 dk_Model_330 (tgt := 307) (by decide) ?_
  refine lv_iload_n hC.1 hC.2.1 dk_Model_307 rfl (lv_at hl 0 rfl) ?_
  refine lv_iconst (v := 4) hC.1 hC.2.1 dk_Model_308 (by decide) ?_
  refine lv_icmp_ge hC.1 hC.2.1 dk_Model_309 (tgt := 333) (by decide) (fun _ => ?_) (fun h => absurd (by decide) h)
  have hW : Wn D cs A (conc true cs a tM0) s H locs := hW
  refine lv_aload_n hC.1 hC.2.1 dk_Model_333 rfl (lv_at hl 1 rfl) ?_
  obtain ⟨τ, ev, hA⟩ := mv_begins tM0_Ag tM0_WN
  exact kr_own (mid := 107) (w1 := 1172) (d := 1) hC hW ev (by decide) rfl rfl rfl (by decide) (by decide +kernel) ⟨hf, Nat.le_trans (show 8 + (mN 107 + 11) + 38 * 1 ≤ 114 from by decide +kernel) hlo⟩ hc hs hl.1 dk_Model_334 (fun H locs hW => kk τ H locs ls hA hW)
end ModelEnd
