/-! The maker of what is told: rows filled. -/
theorem dfill_0 : decode prog_17_method_103_code 0 = .ok (.iconst 0, 1) := by decide +kernel
theorem dfill_1 : decode prog_17_method_103_code 1 = .ok (.istore_n 2, 1) := by decide +kernel
theorem dfill_2 : decode prog_17_method_103_code 2 = .ok (.aload_n 0, 1) := by decide +kernel
theorem dfill_3 : decode prog_17_method_103_code 3 = .ok (.arraylength, 1) := by decide +kernel
theorem dfill_4 : decode prog_17_method_103_code 4 = .ok (.istore_n 3, 1) := by decide +kernel
theorem dfill_5 : decode prog_17_method_103_code 5 = .ok (.iload_n 2, 1) := by decide +kernel
theorem dfill_6 : decode prog_17_method_103_code 6 = .ok (.iload_n 3, 1) := by decide +kernel
theorem dfill_7 : decode prog_17_method_103_code 7 = .ok (.if_icmp .ge 13, 3) := by decide +kernel
theorem dfill_10 : decode prog_17_method_103_code 10 = .ok (.aload_n 0, 1) := by decide +kernel
theorem dfill_11 : decode prog_17_method_103_code 11 = .ok (.iload_n 2, 1) := by decide +kernel
theorem dfill_12 : decode prog_17_method_103_code 12 = .ok (.iload_n 1, 1) := by decide +kernel
theorem dfill_13 : decode prog_17_method_103_code 13 = .ok (.iastore, 1) := by decide +kernel
theorem dfill_14 : decode prog_17_method_103_code 14 = .ok (.iinc 2 1, 3) := by decide +kernel
theorem dfill_17 : decode prog_17_method_103_code 17 = .ok (.goto (-12), 3) := by decide +kernel
theorem dfill_20 : decode prog_17_method_103_code 20 = .ok (.return_, 1) := by decide +kernel
theorem k_fill (l : Launch) (D : va_G) (cs : Cs) (a sz : Nat) (f : Nat → Int32) (x : Int32) : Met l ⟨"java/util/Arrays", "fill", "([II)V"⟩ (.code ⟨"java/util/Arrays", "fill", "([II)V"⟩ prog_17_method_103_code 4 none :: lw_g) { frames := 0, cells := 0, slots := 0, locals := 0 } (va_Pc [.ref a, .int x] (fun U => U.heap.size = sz ∧ va_P D classes [(a, .inl (cs.1, 4, .inl f))] U.heap ∧ va_K D classes (tysOf cs) U ∧ va_D (fun _ => True) [(a, .inl (cs.1, 4, .inl f))]))
    (va_Qv (fun _ : Unit => True) (fun _ t => va_P D classes [(a, .inl (cs.1, 4, .inl (upd (upd (upd (upd f 0 x) 1 x) 2 x) 3 x)))] t.heap ∧ va_K D classes (tysOf cs) t ∧ va_D (va_A [(a, .inl (cs.1, 4, .inl f))] sz) [(a, .inl (cs.1, 4, .inl (upd (upd (upd (upd f 0 x) 1 x) 2 x) 3 x)))]) (va_A [(a, .inl (cs.1, 4, .inl f))] sz)) 0 0 (va_A [(a, .inl (cs.1, 4, .inl f))] sz) := by
  refine Met.ofW (cc := prog_17_method_103_code) (maxL := 4) (ret := none) (by decide) rfl ?_
  intro p e s m args below meth c s₁ B hml hv
  obtain ⟨rfl, hsz, hP, hK, hD0⟩ := hv
  subst hsz
  have hlocks := B.notSynchronized
  have hr := B.returns
  have hx := B.exec
  have hb := B.bytes
  have hD := hD0.self (sz := s.heap.size)
  generalize hAe : va_A [(a, .inl (cs.1, 4, .inl f))] s.heap.size = A at hD ⊢
  have hS : va_S A s.heap s.heap [] := va_S.rf
  have hl := lv_entry [.ref a, .int x] (n := 4) (Nat.le_of_ble_eq_true rfl)
  rw [lg_entry_eq]
  generalize (lg_sl [.ref a, .int x] ++ List.replicate (4 - (lg_sl [.ref a, .int x]).length) Slot.unset).toArray = ls at hl ⊢
  have hl : lv_has ls 4 [(0, .ref a), (1, .int x)] := hl
  refine lv_iconst (v := 0) hx hb dfill_0 (by decide) ?_
  refine lv_istore_n hx hb dfill_1 rfl hl (by decide) rfl (fun ls hl => ?_)
  have hl : lv_has ls 4 [(2, .int 0), (0, .ref a), (1, .int x)] := hl
  refine lv_aload_n hx hb dfill_2 rfl (lv_at hl 1 rfl) ?_
  refine va_alen hx hb hK hP 0 0 rfl rfl (v := 4) rfl dfill_3 ?_
  refine lv_istore_n hx hb dfill_4 rfl hl (by decide) rfl (fun ls hl => ?_)
  have hl : lv_has ls 4 [(3, .int 4), (2, .int 0), (0, .ref a), (1, .int x)] := hl
  refine lv_iload_n hx hb dfill_5 rfl (lv_at hl 1 rfl) ?_
  refine lv_iload_n hx hb dfill_6 rfl (lv_at hl 0 rfl) ?_
  refine lv_icmp_ge hx hb dfill_7 (tgt := 20) (by decide) (fun h => absurd h (by decide)) (fun _ => ?_)
  refine lv_aload_n hx hb dfill_10 rfl (lv_at hl 2 rfl) ?_
  refine lv_iload_n hx hb dfill_11 rfl (lv_at hl 1 rfl) ?_
  refine lv_iload_n hx hb dfill_12 rfl (lv_at hl 3 rfl) ?_
  refine va_iast hx hb hK hP hD hS 0 0 rfl rfl (by unfold vp_in; decide) dfill_13 (fun H locs hP hD hS => ?_)
  have hP : va_P D classes [(a, .inl (cs.1, 4, .inl (upd f 0 x)))] H := hP
  have hD : va_D A [(a, .inl (cs.1, 4, .inl (upd f 0 x)))] := hD
  refine lv_iinc (k := 1) (v := 1) hx hb dfill_14 hl rfl (by decide) (by decide) rfl (fun ls hl => ?_)
  have hl : lv_has ls 4 [(2, .int 1), (3, .int 4), (0, .ref a), (1, .int x)] := hl
  refine lv_goto hx hb dfill_17 (tgt := 5) (by decide) ?_
  refine lv_iload_n hx hb dfill_5 rfl (lv_at hl 0 rfl) ?_
  refine lv_iload_n hx hb dfill_6 rfl (lv_at hl 1 rfl) ?_
  refine lv_icmp_ge hx hb dfill_7 (tgt := 20) (by decide) (fun h => absurd h (by decide)) (fun _ => ?_)
  refine lv_aload_n hx hb dfill_10 rfl (lv_at hl 2 rfl) ?_
  refine lv_iload_n hx hb dfill_11 rfl (lv_at hl 0 rfl) ?_
  refine lv_iload_n hx hb dfill_12 rfl (lv_at hl 3 rfl) ?_
  refine va_iast hx hb hK hP hD hS 0 0 rfl rfl (by unfold vp_in; decide) dfill_13 (fun H locs hP hD hS => ?_)
  have hP : va_P D classes [(a, .inl (cs.1, 4, .inl (upd (upd f 0 x) 1 x)))] H := hP
  have hD : va_D A [(a, .inl (cs.1, 4, .inl (upd (upd f 0 x) 1 x)))] := hD
  refine lv_iinc (k := 0) (v := 2) hx hb dfill_14 hl rfl (by decide) (by decide) rfl (fun ls hl => ?_)
  have hl : lv_has ls 4 [(2, .int 2), (3, .int 4), (0, .ref a), (1, .int x)] := hl
  refine lv_goto hx hb dfill_17 (tgt := 5) (by decide) ?_
  refine lv_iload_n hx hb dfill_5 rfl (lv_at hl 0 rfl) ?_
  refine lv_iload_n hx hb dfill_6 rfl (lv_at hl 1 rfl) ?_
  refine lv_icmp_ge hx hb dfill_7 (tgt := 20) (by decide) (fun h => absurd h (by decide)) (fun _ => ?_)
  refine lv_aload_n hx hb dfill_10 rfl (lv_at hl 2 rfl) ?_
  refine lv_iload_n hx hb dfill_11 rfl (lv_at hl 0 rfl) ?_
  refine lv_iload_n hx hb dfill_12 rfl (lv_at hl 3 rfl) ?_
  refine va_iast hx hb hK hP hD hS 0 0 rfl rfl (by unfold vp_in; decide) dfill_13 (fun H locs hP hD hS => ?_)
  have hP : va_P D classes [(a, .inl (cs.1, 4, .inl (upd (upd (upd f 0 x) 1 x) 2 x)))] H := hP
  have hD : va_D A [(a, .inl (cs.1, 4, .inl (upd (upd (upd f 0 x) 1 x) 2 x)))] := hD
  refine lv_iinc (k := 0) (v := 3) hx hb dfill_14 hl rfl (by decide) (by decide) rfl (fun ls hl => ?_)
  have hl : lv_has ls 4 [(2, .int 3), (3, .int 4), (0, .ref a), (1, .int x)] := hl
  refine lv_goto hx hb dfill_17 (tgt := 5) (by decide) ?_
  refine lv_iload_n hx hb dfill_5 rfl (lv_at hl 0 rfl) ?_
  refine lv_iload_n hx hb dfill_6 rfl (lv_at hl 1 rfl) ?_
  refine lv_icmp_ge hx hb dfill_7 (tgt := 20) (by decide) (fun h => absurd h (by decide)) (fun _ => ?_)
  refine lv_aload_n hx hb dfill_10 rfl (lv_at hl 2 rfl) ?_
  refine lv_iload_n hx hb dfill_11 rfl (lv_at hl 0 rfl) ?_
  refine lv_iload_n hx hb dfill_12 rfl (lv_at hl 3 rfl) ?_
  refine va_iast hx hb hK hP hD hS 0 0 rfl rfl (by unfold vp_in; decide) dfill_13 (fun H locs hP hD hS => ?_)
  have hP : va_P D classes [(a, .inl (cs.1, 4, .inl (upd (upd (upd (upd f 0 x) 1 x) 2 x) 3 x)))] H := hP
  have hD : va_D A [(a, .inl (cs.1, 4, .inl (upd (upd (upd (upd f 0 x) 1 x) 2 x) 3 x)))] := hD
  refine lv_iinc (k := 0) (v := 4) hx hb dfill_14 hl rfl (by decide) (by decide) rfl (fun ls hl => ?_)
  have hl : lv_has ls 4 [(2, .int 4), (3, .int 4), (0, .ref a), (1, .int x)] := hl
  refine lv_goto hx hb dfill_17 (tgt := 5) (by decide) ?_
  refine lv_iload_n hx hb dfill_5 rfl (lv_at hl 0 rfl) ?_
  refine lv_iload_n hx hb dfill_6 rfl (lv_at hl 1 rfl) ?_
  refine lv_icmp_ge hx hb dfill_7 (tgt := 20) (by decide) (fun _ => ?_) (fun h => absurd (by decide) h)
  exact W.vret hx hb hr (fun t ht hWm => ⟨⟨(), rfl, trivial, by rw [ht]; exact hP, va_K.moved hWm.alike hK, hD⟩, hS.F ht⟩) hS.2.2 dfill_20
theorem mw_fill : wAt 111 = some (.code ⟨"java/util/Arrays", "fill", "([II)V"⟩ prog_17_method_103_code 4 none) ∧ wAt 81 = some (.initialized "java/util/Arrays") ∧ wAt 110 = some (.static ⟨"java/util/Arrays", "fill", "([II)V"⟩) := ⟨by decide +kernel, by decide +kernel, by decide +kernel⟩
section FillRow
variable {p : Program} {l : Launch} {e : Env} {R : Room} {s : State} {m : MethodId} {args : Array Value} {below : List Frame} {meth : Method} {c : Code} {H : Heap} {locs : List Loc} {cells slots : Nat} {Q : State → Prop}
variable {D : va_G} {cs : Cs} {A : Nat → Prop} {ws : va_W} {own : String} {cc : ByteArray} {nL pc : Nat} {ls : Array Slot} {rest : List Value}
theorem kr_get (hC : Cw own cc nL p s m args c) (hW : Wn D cs A ws s H locs) {ci idx w1 b N a : Nat} {nm ds : String} {fin : Bool} {fs : List Value} {v : Value} (he : ws[0]? = some (a, .inr (ci, fs))) (hq : clT ci b = some (own, nm, ds, fin, N)) (hbN : b < N) (h1 : wAt w1 = some (.fieldLink own idx own nm ds)) (hv : fs[b]? = some v) (hdg : decode cc pc = .ok (.getfield idx, 3))
    (kk : W p l e R s m args below meth c H locs cells slots Q (F0 m (pc + 3) ls (v :: rest))) : W p l e R s m args below meth c H locs cells slots Q (F0 m pc ls (.ref a :: rest)) := by
  obtain ⟨q, hcl, rf, rfl, rfl, -, rfl⟩ := clT_spec hq
  obtain ⟨c1, -, -⟩ := cls_ok hcl
  exact va_get hC.1 hC.2.1 hC.2.2.2.2 c1 hC.2.2.2.1 hW.1.2.1.1 hW.1.1 0 he hcl b hbN (hts_at hC.2.2.2.2 h1) (fun x h => by rw [rf] at h; exact h) hv hdg kk
theorem kr_fill (hC : Cw own cc nL p s m args c) (hW : Wn D cs A ws s H locs) {idx wl i0 a : Nat} {f : Nat → Int32} {x : Int32} {isR : List Nat} {wr : va_W} (hi : [i0].map (fun i => ws[i]?) = [(a, (.inl (cs.1, 4, .inl f) : va_E))].map some) (hR : isR.map (fun i => ws[i]?) = wr.map some) (hnd : va_nd isR = true) (hdis : ∀ i ∈ isR, i ∉ [i0]) (h1 : wAt wl = some (.methodLink own idx ⟨"java/util/Arrays", "fill", "([II)V"⟩)) (hRm : 0 + 1 ≤ R.frames ∧ 8 + (4 + 11) + 0 ≤ R.locals) (hc : cells + 0 ≤ R.cells) (hs : slots + 0 ≤ R.slots) (hsz : ls.size = nL) (hdg : decode cc pc = .ok (.invokestatic idx, 3))
    (kk : ∀ (H1 : Heap) (locs1 : List Loc), Wn D cs A (wr ++ [(a, .inl (cs.1, 4, .inl (upd (upd (upd (upd f 0 x) 1 x) 2 x) 3 x)))]) s H1 locs1 → W p l e R s m args below meth c H1 locs1 (cells + 0) (slots + 0) Q (F0 m (pc + 3) ls [])) : W p l e R s m args below meth c H locs cells slots Q (F0 m pc ls [.int x, .ref a]) := by
  have hG : GoodIn lw_g (.code ⟨"java/util/Arrays", "fill", "([II)V"⟩ prog_17_method_103_code 4 none :: lw_g) := by
    intro w hw
    have hm : w ∈ lw_g := by
      rcases List.mem_cons.mp hw with rfl | hw
      · exact List.mem_filter.mpr ⟨List.mem_of_getElem? mw_fill.1, rfl⟩
      · exact hw
    exact ⟨hm, good_of_word (List.mem_filter.mp hm).2⟩
  have hF := va_free (wc := [(a, (.inl (cs.1, 4, .inl f) : va_E))]) hW.1.2.2 hW.2.1 hW.2.2 [i0] hi
  have o1 : va_P D classes [(a, (.inl (cs.1, 4, .inl f) : va_E))] H := by
    intro k q h
    cases k with
    | zero =>
      cases h
      exact hW.1.1 i0 _ (List.cons.inj hi).1
    | succ k => cases h
  have o2 : va_D (fun _ => True) [(a, (.inl (cs.1, 4, .inl f) : va_E))] := by
    refine ⟨fun i j x y hx hy _ => ?_, fun _ _ _ => trivial⟩
    have h1 := (List.getElem?_eq_some_iff.mp hx).1
    have h2 := (List.getElem?_eq_some_iff.mp hy).1
    simp at h1 h2
    omega
  refine va_callv (va_runS (As := [.ref a, .int x]) (rest := []) (n := 2) (nL := nL) (Ts := lw_g) hC (k_fill l D cs a H.size f x) ⟨callB_of 2 hC.2.2.2.2 hG rfl rfl rfl (hts_at hC.2.2.2.2 mw_fill.2.1) (hts_at hC.2.2.2.2 h1) (by decide +kernel) hRm, hts_at hC.2.2.2.2 mw_fill.2.2⟩ ⟨fun a U g mk q => by obtain ⟨q0, q1, qP, qK, qD⟩ := q; exact ⟨q0, q1, qP, va_K.moved (u := U) (U := U.calling g mk a) (Vm.Alike.refl U.vm) qK, qD⟩, fun U hU hWm => ⟨rfl, by rw [hU], by rw [hU]; exact o1, va_K.moved hWm.alike hW.1.2.1.1, o2⟩⟩ rfl rfl hsz rfl (by show 2 * 0 + 0 ≤ 8; omega) hdg ⟨hc, hs⟩) hW.2.1 (fun q _ h => hF q h) (fun q h => hF q h) (fun w1 t H1 locs1 ht hvm hp hB _ hk hS1 => ?_)
  obtain ⟨b1, -, b3⟩ := hB
  rw [ht] at b1
  obtain ⟨hP2, hD2⟩ := va_join hW.1.1 hW.1.2.2 [i0] isR hi hR hnd hdis hk hF b1 b3
  exact kk H1 locs1 ⟨⟨hP2, hW.1.2.1, hD2⟩, hS1, hW.2.2⟩
end FillRow
theorem upd4 (x : Int32) (j : Nat) : upd (upd (upd (upd (fun _ => 0) 0 x) 1 x) 2 x) 3 x j = if j < 4 then x else 0 := by
  unfold upd
  by_cases h3 : j = 3
  · rw [if_pos h3, if_pos (by omega)]
  · rw [if_neg h3]
    by_cases h2 : j = 2
    · rw [if_pos h2, if_pos (by omega)]
    · rw [if_neg h2]
      by_cases h1 : j = 1
      · rw [if_pos h1, if_pos (by omega)]
      · rw [if_neg h1]
        by_cases h0 : j = 0
        · rw [if_pos h0, if_pos (by omega)]
        · rw [if_neg h0, if_neg (by omega)]
theorem dk_Told_0 : decode prog_10_method_1_code 0 = .ok (.aload_n 0, 1) := by decide +kernel
theorem dk_Told_1 : decode prog_10_method_1_code 1 = .ok (.invokespecial 3, 3) := by decide +kernel
theorem dk_Told_4 : decode prog_10_method_1_code 4 = .ok (.aload_n 0, 1) := by decide +kernel
theorem dk_Told_5 : decode prog_10_method_1_code 5 = .ok (.bipush 60, 2) := by decide +kernel
theorem dk_Told_7 : decode prog_10_method_1_code 7 = .ok (.putfield 9, 3) := by decide +kernel
theorem dk_Told_10 : decode prog_10_method_1_code 10 = .ok (.aload_n 0, 1) := by decide +kernel
theorem dk_Told_11 : decode prog_10_method_1_code 11 = .ok (.sipush 500, 3) := by decide +kernel
theorem dk_Told_14 : decode prog_10_method_1_code 14 = .ok (.putfield 15, 3) := by decide +kernel
theorem dk_Told_17 : decode prog_10_method_1_code 17 = .ok (.aload_n 0, 1) := by decide +kernel
theorem dk_Told_18 : decode prog_10_method_1_code 18 = .ok (.bipush 12, 2) := by decide +kernel
theorem dk_Told_20 : decode prog_10_method_1_code 20 = .ok (.newarray .int, 2) := by decide +kernel
theorem dk_Told_22 : decode prog_10_method_1_code 22 = .ok (.putfield 18, 3) := by decide +kernel
theorem dk_Told_25 : decode prog_10_method_1_code 25 = .ok (.aload_n 0, 1) := by decide +kernel
theorem dk_Told_26 : decode prog_10_method_1_code 26 = .ok (.bipush 12, 2) := by decide +kernel
theorem dk_Told_28 : decode prog_10_method_1_code 28 = .ok (.newarray .int, 2) := by decide +kernel
theorem dk_Told_30 : decode prog_10_method_1_code 30 = .ok (.putfield 22, 3) := by decide +kernel
theorem dk_Told_33 : decode prog_10_method_1_code 33 = .ok (.aload_n 0, 1) := by decide +kernel
theorem dk_Told_34 : decode prog_10_method_1_code 34 = .ok (.bipush 12, 2) := by decide +kernel
theorem dk_Told_36 : decode prog_10_method_1_code 36 = .ok (.newarray .int, 2) := by decide +kernel
theorem dk_Told_38 : decode prog_10_method_1_code 38 = .ok (.putfield 25, 3) := by decide +kernel
theorem dk_Told_41 : decode prog_10_method_1_code 41 = .ok (.aload_n 0, 1) := by decide +kernel
theorem dk_Told_42 : decode prog_10_method_1_code 42 = .ok (.bipush 60, 2) := by decide +kernel
theorem dk_Told_44 : decode prog_10_method_1_code 44 = .ok (.newarray .int, 2) := by decide +kernel
theorem dk_Told_46 : decode prog_10_method_1_code 46 = .ok (.putfield 28, 3) := by decide +kernel
theorem dk_Told_49 : decode prog_10_method_1_code 49 = .ok (.aload_n 0, 1) := by decide +kernel
theorem dk_Told_50 : decode prog_10_method_1_code 50 = .ok (.sipush 200, 3) := by decide +kernel
theorem dk_Told_53 : decode prog_10_method_1_code 53 = .ok (.newarray .int, 2) := by decide +kernel
theorem dk_Told_55 : decode prog_10_method_1_code 55 = .ok (.putfield 31, 3) := by decide +kernel
theorem dk_Told_58 : decode prog_10_method_1_code 58 = .ok (.aload_n 0, 1) := by decide +kernel
theorem dk_Told_59 : decode prog_10_method_1_code 59 = .ok (.sipush 200, 3) := by decide +kernel
theorem dk_Told_62 : decode prog_10_method_1_code 62 = .ok (.newarray .int, 2) := by decide +kernel
theorem dk_Told_64 : decode prog_10_method_1_code 64 = .ok (.putfield 34, 3) := by decide +kernel
theorem dk_Told_67 : decode prog_10_method_1_code 67 = .ok (.aload_n 0, 1) := by decide +kernel
theorem dk_Told_68 : decode prog_10_method_1_code 68 = .ok (.sipush 200, 3) := by decide +kernel
theorem dk_Told_71 : decode prog_10_method_1_code 71 = .ok (.newarray .int, 2) := by decide +kernel
theorem dk_Told_73 : decode prog_10_method_1_code 73 = .ok (.putfield 37, 3) := by decide +kernel
theorem dk_Told_76 : decode prog_10_method_1_code 76 = .ok (.aload_n 0, 1) := by decide +kernel
theorem dk_Told_77 : decode prog_10_method_1_code 77 = .ok (.sipush 200, 3) := by decide +kernel
theorem dk_Told_80 : decode prog_10_method_1_code 80 = .ok (.newarray .int, 2) := by decide +kernel
theorem dk_Told_82 : decode prog_10_method_1_code 82 = .ok (.putfield 40, 3) := by decide +kernel
theorem dk_Told_85 : decode prog_10_method_1_code 85 = .ok (.aload_n 0, 1) := by decide +kernel
theorem dk_Told_86 : decode prog_10_method_1_code 86 = .ok (.iconst 4, 1) := by decide +kernel
theorem dk_Told_87 : decode prog_10_method_1_code 87 = .ok (.newarray .int, 2) := by decide +kernel
theorem dk_Told_89 : decode prog_10_method_1_code 89 = .ok (.putfield 43, 3) := by decide +kernel
theorem dk_Told_92 : decode prog_10_method_1_code 92 = .ok (.aload_n 0, 1) := by decide +kernel
theorem dk_Told_93 : decode prog_10_method_1_code 93 = .ok (.iconst 4, 1) := by decide +kernel
theorem dk_Told_94 : decode prog_10_method_1_code 94 = .ok (.newarray .int, 2) := by decide +kernel
theorem dk_Told_96 : decode prog_10_method_1_code 96 = .ok (.putfield 46, 3) := by decide +kernel
theorem dk_Told_99 : decode prog_10_method_1_code 99 = .ok (.aload_n 0, 1) := by decide +kernel
theorem dk_Told_100 : decode prog_10_method_1_code 100 = .ok (.getfield 43, 3) := by decide +kernel
theorem dk_Told_103 : decode prog_10_method_1_code 103 = .ok (.bipush 20, 2) := by decide +kernel
theorem dk_Told_105 : decode prog_10_method_1_code 105 = .ok (.invokestatic 49, 3) := by decide +kernel
theorem dk_Told_108 : decode prog_10_method_1_code 108 = .ok (.aload_n 0, 1) := by decide +kernel
theorem dk_Told_109 : decode prog_10_method_1_code 109 = .ok (.getfield 46, 3) := by decide +kernel
theorem dk_Told_112 : decode prog_10_method_1_code 112 = .ok (.iconst 5, 1) := by decide +kernel
theorem dk_Told_113 : decode prog_10_method_1_code 113 = .ok (.invokestatic 49, 3) := by decide +kernel
theorem dk_Told_116 : decode prog_10_method_1_code 116 = .ok (.return_, 1) := by decide +kernel
def Lk_Told : List Lb := (1, false, 0) :: ((((((((((([] : List Lb) ++ lbK 2 false) ++ lbK 3 false) ++ lbK 4 false) ++ lbK 5 false) ++ lbK 6 false) ++ lbK 7 false) ++ lbK 8 false) ++ lbK 9 false) ++ lbK 10 false) ++ lbK 11 false)
theorem k_Told (l : Launch) (D : va_G) (cs : Cs) (h0 sz : Nat) : Kt l ⟨"BikeTown$Told", "<init>", "()V"⟩ prog_10_method_1_code 1 [] D cs h0 sz (8, dfS 15 tyX8) 1 10 904 (fun w1 => ∃ a : Ad, a 1 false 0 = h0 ∧ w1 = cnL Lk_Told cs a sC) := by
  refine Met.ofW (cc := prog_10_method_1_code) (maxL := 1) (ret := none) (by decide) rfl ?_
  intro p e s m args below meth c s₁ B hml hv
  obtain ⟨rfl, hsz, hP, hK, hD0⟩ := hv
  subst hsz
  have hlocks := B.notSynchronized
  have hr := B.returns
  have hin : meth.name = "<init>" := (name_of_methodNamed B.named B.method).1
  have hts := atoms_spec (ws := .code ⟨"BikeTown$Told", "<init>", "()V"⟩ prog_10_method_1_code 1 none :: lw_g) B.pre
  have hC : Cw "BikeTown$Told" prog_10_method_1_code 1 p s m (.ref h0 :: []).toArray c := ⟨B.exec, B.bytes, hml, findClass_of_methodNamed B.named, fun w hw => hts w (List.mem_cons_of_mem _ hw)⟩
  have hD := hD0.self (sz := s.heap.size)
  generalize hAe : va_A [(h0, .inr (8, dfS 15 tyX8))] s.heap.size = A at hD ⊢
  have hW : Wn D cs A ((h0, .inr (8, [.int 0, .int 0, .int 0, .int 0, .int 0, .null, .null, .null, .null, .null, .null, .null, .null, .null, .null])) :: ([] : va_W)) s s.heap [] := ⟨⟨hP, hK, hD⟩, va_S.rf, fun q h => by rw [← hAe]; exact Or.inr h⟩
  have hl := lv_entry (.ref h0 :: []) (n := 1) (Nat.le_of_ble_eq_true rfl)
  rw [lg_entry_eq]
  generalize (lg_sl (.ref h0 :: []) ++ List.replicate (1 - (lg_sl (.ref h0 :: [])).length) Slot.unset).toArray = ls at hl ⊢
  have hl : lv_has ls 1 [(0, .ref h0)] := hl
  refine lv_aload_n hC.1 hC.2.1 dk_Told_0 rfl (lv_at hl 0 rfl) ?_
  refine kr_super hC (w1 := 108) (by decide +kernel) hl.1 (by exact Nat.le_of_ble_eq_true rfl) (by exact Nat.le_of_ble_eq_true rfl) dk_Told_1 ?_
  refine lv_aload_n hC.1 hC.2.1 dk_Told_4 rfl (lv_at hl 0 rfl) ?_
  refine lv_bipush (v := 60) hC.1 hC.2.1 dk_Told_5 (by decide) ?_
  refine kr_put (b := 3) (w1 := 122) (v := .int 60) (ty := .int) (nm := "mend") (ds := "I") (N := 15) hC hW rfl (by decide +kernel) (by decide) (by decide +kernel) (by decide +kernel) rfl rfl (by exact Nat.le_of_ble_eq_true rfl) dk_Told_7 (fun H locs hW => ?_)
  have hW : Wn D cs A ((h0, .inr (8, [.int 0, .int 0, .int 0, .int 60, .int 0, .null, .null, .null, .null, .null, .null, .null, .null, .null, .null])) :: ([] : va_W)) s H locs := hW
  refine lv_aload_n hC.1 hC.2.1 dk_Told_10 rfl (lv_at hl 0 rfl) ?_
  refine lv_sipush (v := 500) hC.1 hC.2.1 dk_Told_11 (by decide) ?_
  refine kr_put (b := 4) (w1 := 125) (v := .int 500) (ty := .int) (nm := "worn") (ds := "I") (N := 15) hC hW rfl (by decide +kernel) (by decide) (by decide +kernel) (by decide +kernel) rfl rfl (by exact Nat.le_of_ble_eq_true rfl) dk_Told_14 (fun H locs hW => ?_)
  have hW : Wn D cs A ((h0, .inr (8, [.int 0, .int 0, .int 0, .int 60, .int 500, .null, .null, .null, .null, .null, .null, .null, .null, .null, .null])) :: ([] : va_W)) s H locs := hW
  refine lv_aload_n hC.1 hC.2.1 dk_Told_17 rfl (lv_at hl 0 rfl) ?_
  refine lv_bipush (v := 12) hC.1 hC.2.1 dk_Told_18 (by decide) ?_
  refine kr_newI hC hW (N := 12) mw_ai (by decide) (by decide) (by decide) (by exact Nat.le_of_ble_eq_true rfl) (by exact Nat.le_of_ble_eq_true rfl) dk_Told_20 (fun q20 H hW => ?_)
  refine kr_putF (b := 5) (w1 := 128) (v := .ref q20) (ty := (.array .int)) (nm := "x") (ds := "[I") (N := 15) hC hin hW rfl (by decide +kernel) (by decide) (by decide +kernel) (by decide +kernel) rfl rfl (by exact Nat.le_of_ble_eq_true rfl) dk_Told_22 (fun H locs hW => ?_)
  obtain ⟨T1, eT1⟩ : ∃ z, z = ([] : va_W) ++ [(q20, .inl (cs.1, 12, .inl fun _ => 0))] := ⟨_, rfl⟩
  have hW : Wn D cs A ((h0, .inr (8, [.int 0, .int 0, .int 0, .int 60, .int 500, .ref q20, .null, .null, .null, .null, .null, .null, .null, .null, .null])) :: (([] : va_W) ++ [(q20, .inl (cs.1, 12, .inl fun _ => 0))])) s H locs := hW
  rw [← eT1] at hW
  refine lv_aload_n hC.1 hC.2.1 dk_Told_25 rfl (lv_at hl 0 rfl) ?_
  refine lv_bipush (v := 12) hC.1 hC.2.1 dk_Told_26 (by decide) ?_
  refine kr_newI hC hW (N := 12) mw_ai (by decide) (by decide) (by decide) (by exact Nat.le_of_ble_eq_true rfl) (by exact Nat.le_of_ble_eq_true rfl) dk_Told_28 (fun q28 H hW => ?_)
  refine kr_putF (b := 6) (w1 := 130) (v := .ref q28) (ty := (.array .int)) (nm := "y") (ds := "[I") (N := 15) hC hin hW rfl (by decide +kernel) (by decide) (by decide +kernel) (by decide +kernel) rfl rfl (by exact Nat.le_of_ble_eq_true rfl) dk_Told_30 (fun H locs hW => ?_)
  obtain ⟨T2, eT2⟩ : ∃ z, z = T1 ++ [(q28, .inl (cs.1, 12, .inl fun _ => 0))] := ⟨_, rfl⟩
  have hW : Wn D cs A ((h0, .inr (8, [.int 0, .int 0, .int 0, .int 60, .int 500, .ref q20, .ref q28, .null, .null, .null, .null, .null, .null, .null, .null])) :: (T1 ++ [(q28, .inl (cs.1, 12, .inl fun _ => 0))])) s H locs := hW
  rw [← eT2] at hW
  refine lv_aload_n hC.1 hC.2.1 dk_Told_33 rfl (lv_at hl 0 rfl) ?_
  refine lv_bipush (v := 12) hC.1 hC.2.1 dk_Told_34 (by decide) ?_
  refine kr_newI hC hW (N := 12) mw_ai (by decide) (by decide) (by decide) (by exact Nat.le_of_ble_eq_true rfl) (by exact Nat.le_of_ble_eq_true rfl) dk_Told_36 (fun q36 H hW => ?_)
  refine kr_putF (b := 7) (w1 := 132) (v := .ref q36) (ty := (.array .int)) (nm := "racks") (ds := "[I") (N := 15) hC hin hW rfl (by decide +kernel) (by decide) (by decide +kernel) (by decide +kernel) rfl rfl (by exact Nat.le_of_ble_eq_true rfl) dk_Told_38 (fun H locs hW => ?_)
  obtain ⟨T3, eT3⟩ : ∃ z, z = T2 ++ [(q36, .inl (cs.1, 12, .inl fun _ => 0))] := ⟨_, rfl⟩
  have hW : Wn D cs A ((h0, .inr (8, [.int 0, .int 0, .int 0, .int 60, .int 500, .ref q20, .ref q28, .ref q36, .null, .null, .null, .null, .null, .null, .null])) :: (T2 ++ [(q36, .inl (cs.1, 12, .inl fun _ => 0))])) s H locs := hW
  rw [← eT3] at hW
  refine lv_aload_n hC.1 hC.2.1 dk_Told_41 rfl (lv_at hl 0 rfl) ?_
  refine lv_bipush (v := 60) hC.1 hC.2.1 dk_Told_42 (by decide) ?_
  refine kr_newI hC hW (N := 60) mw_ai (by decide) (by decide) (by decide) (by exact Nat.le_of_ble_eq_true rfl) (by exact Nat.le_of_ble_eq_true rfl) dk_Told_44 (fun q44 H hW => ?_)
  refine kr_putF (b := 8) (w1 := 134) (v := .ref q44) (ty := (.array .int)) (nm := "home") (ds := "[I") (N := 15) hC hin hW rfl (by decide +kernel) (by decide) (by decide +kernel) (by decide +kernel) rfl rfl (by exact Nat.le_of_ble_eq_true rfl) dk_Told_46 (fun H locs hW => ?_)
  obtain ⟨T4, eT4⟩ : ∃ z, z = T3 ++ [(q44, .inl (cs.1, 60, .inl fun _ => 0))] := ⟨_, rfl⟩
  have hW : Wn D cs A ((h0, .inr (8, [.int 0, .int 0, .int 0, .int 60, .int 500, .ref q20, .ref q28, .ref q36, .ref q44, .null, .null, .null, .null, .null, .null])) :: (T3 ++ [(q44, .inl (cs.1, 60, .inl fun _ => 0))])) s H locs := hW
  rw [← eT4] at hW
  refine lv_aload_n hC.1 hC.2.1 dk_Told_49 rfl (lv_at hl 0 rfl) ?_
  refine lv_sipush (v := 200) hC.1 hC.2.1 dk_Told_50 (by decide) ?_
  refine kr_newI hC hW (N := 200) mw_ai (by decide) (by decide) (by decide) (by exact Nat.le_of_ble_eq_true rfl) (by exact Nat.le_of_ble_eq_true rfl) dk_Told_53 (fun q53 H hW => ?_)
  refine kr_putF (b := 9) (w1 := 136) (v := .ref q53) (ty := (.array .int)) (nm := "minute") (ds := "[I") (N := 15) hC hin hW rfl (by decide +kernel) (by decide) (by decide +kernel) (by decide +kernel) rfl rfl (by exact Nat.le_of_ble_eq_true rfl) dk_Told_55 (fun H locs hW => ?_)
  obtain ⟨T5, eT5⟩ : ∃ z, z = T4 ++ [(q53, .inl (cs.1, 200, .inl fun _ => 0))] := ⟨_, rfl⟩
  have hW : Wn D cs A ((h0, .inr (8, [.int 0, .int 0, .int 0, .int 60, .int 500, .ref q20, .ref q28, .ref q36, .ref q44, .ref q53, .null, .null, .null, .null, .null])) :: (T4 ++ [(q53, .inl (cs.1, 200, .inl fun _ => 0))])) s H locs := hW
  rw [← eT5] at hW
  refine lv_aload_n hC.1 hC.2.1 dk_Told_58 rfl (lv_at hl 0 rfl) ?_
  refine lv_sipush (v := 200) hC.1 hC.2.1 dk_Told_59 (by decide) ?_
  refine kr_newI hC hW (N := 200) mw_ai (by decide) (by decide) (by decide) (by exact Nat.le_of_ble_eq_true rfl) (by exact Nat.le_of_ble_eq_true rfl) dk_Told_62 (fun q62 H hW => ?_)
  refine kr_putF (b := 10) (w1 := 138) (v := .ref q62) (ty := (.array .int)) (nm := "from") (ds := "[I") (N := 15) hC hin hW rfl (by decide +kernel) (by decide) (by decide +kernel) (by decide +kernel) rfl rfl (by exact Nat.le_of_ble_eq_true rfl) dk_Told_64 (fun H locs hW => ?_)
  obtain ⟨T6, eT6⟩ : ∃ z, z = T5 ++ [(q62, .inl (cs.1, 200, .inl fun _ => 0))] := ⟨_, rfl⟩
  have hW : Wn D cs A ((h0, .inr (8, [.int 0, .int 0, .int 0, .int 60, .int 500, .ref q20, .ref q28, .ref q36, .ref q44, .ref q53, .ref q62, .null, .null, .null, .null])) :: (T5 ++ [(q62, .inl (cs.1, 200, .inl fun _ => 0))])) s H locs := hW
  rw [← eT6] at hW
  refine lv_aload_n hC.1 hC.2.1 dk_Told_67 rfl (lv_at hl 0 rfl) ?_
  refine lv_sipush (v := 200) hC.1 hC.2.1 dk_Told_68 (by decide) ?_
  refine kr_newI hC hW (N := 200) mw_ai (by decide) (by decide) (by decide) (by exact Nat.le_of_ble_eq_true rfl) (by exact Nat.le_of_ble_eq_true rfl) dk_Told_71 (fun q71 H hW => ?_)
  refine kr_putF (b := 11) (w1 := 140) (v := .ref q71) (ty := (.array .int)) (nm := "to") (ds := "[I") (N := 15) hC hin hW rfl (by decide +kernel) (by decide) (by decide +kernel) (by decide +kernel) rfl rfl (by exact Nat.le_of_ble_eq_true rfl) dk_Told_73 (fun H locs hW => ?_)
  obtain ⟨T7, eT7⟩ : ∃ z, z = T6 ++ [(q71, .inl (cs.1, 200, .inl fun _ => 0))] := ⟨_, rfl⟩
  have hW : Wn D cs A ((h0, .inr (8, [.int 0, .int 0, .int 0, .int 60, .int 500, .ref q20, .ref q28, .ref q36, .ref q44, .ref q53, .ref q62, .ref q71, .null, .null, .null])) :: (T6 ++ [(q71, .inl (cs.1, 200, .inl fun _ => 0))])) s H locs := hW
  rw [← eT7] at hW
  refine lv_aload_n hC.1 hC.2.1 dk_Told_76 rfl (lv_at hl 0 rfl) ?_
  refine lv_sipush (v := 200) hC.1 hC.2.1 dk_Told_77 (by decide) ?_
  refine kr_newI hC hW (N := 200) mw_ai (by decide) (by decide) (by decide) (by exact Nat.le_of_ble_eq_true rfl) (by exact Nat.le_of_ble_eq_true rfl) dk_Told_80 (fun q80 H hW => ?_)
  refine kr_putF (b := 12) (w1 := 142) (v := .ref q80) (ty := (.array .int)) (nm := "kind") (ds := "[I") (N := 15) hC hin hW rfl (by decide +kernel) (by decide) (by decide +kernel) (by decide +kernel) rfl rfl (by exact Nat.le_of_ble_eq_true rfl) dk_Told_82 (fun H locs hW => ?_)
  obtain ⟨T8, eT8⟩ : ∃ z, z = T7 ++ [(q80, .inl (cs.1, 200, .inl fun _ => 0))] := ⟨_, rfl⟩
  have hW : Wn D cs A ((h0, .inr (8, [.int 0, .int 0, .int 0, .int 60, .int 500, .ref q20, .ref q28, .ref q36, .ref q44, .ref q53, .ref q62, .ref q71, .ref q80, .null, .null])) :: (T7 ++ [(q80, .inl (cs.1, 200, .inl fun _ => 0))])) s H locs := hW
  rw [← eT8] at hW
  refine lv_aload_n hC.1 hC.2.1 dk_Told_85 rfl (lv_at hl 0 rfl) ?_
  refine lv_iconst (v := 4) hC.1 hC.2.1 dk_Told_86 (by decide) ?_
  refine kr_newI hC hW (N := 4) mw_ai (by decide) (by decide) (by decide) (by exact Nat.le_of_ble_eq_true rfl) (by exact Nat.le_of_ble_eq_true rfl) dk_Told_87 (fun q87 H hW => ?_)
  refine kr_putF (b := 13) (w1 := 144) (v := .ref q87) (ty := (.array .int)) (nm := "limit") (ds := "[I") (N := 15) hC hin hW rfl (by decide +kernel) (by decide) (by decide +kernel) (by decide +kernel) rfl rfl (by exact Nat.le_of_ble_eq_true rfl) dk_Told_89 (fun H locs hW => ?_)
  obtain ⟨T9, eT9⟩ : ∃ z, z = T8 ++ [(q87, .inl (cs.1, 4, .inl fun _ => 0))] := ⟨_, rfl⟩
  have hW : Wn D cs A ((h0, .inr (8, [.int 0, .int 0, .int 0, .int 60, .int 500, .ref q20, .ref q28, .ref q36, .ref q44, .ref q53, .ref q62, .ref q71, .ref q80, .ref q87, .null])) :: (T8 ++ [(q87, .inl (cs.1, 4, .inl fun _ => 0))])) s H locs := hW
  rw [← eT9] at hW
  refine lv_aload_n hC.1 hC.2.1 dk_Told_92 rfl (lv_at hl 0 rfl) ?_
  refine lv_iconst (v := 4) hC.1 hC.2.1 dk_Told_93 (by decide) ?_
  refine kr_newI hC hW (N := 4) mw_ai (by decide) (by decide) (by decide) (by exact Nat.le_of_ble_eq_true rfl) (by exact Nat.le_of_ble_eq_true rfl) dk_Told_94 (fun q94 H hW => ?_)
  refine kr_putF (b := 14) (w1 := 147) (v := .ref q94) (ty := (.array .int)) (nm := "patience") (ds := "[I") (N := 15) hC hin hW rfl (by decide +kernel) (by decide) (by decide +kernel) (by decide +kernel) rfl rfl (by exact Nat.le_of_ble_eq_true rfl) dk_Told_96 (fun H locs hW => ?_)
  obtain ⟨T10, eT10⟩ : ∃ z, z = T9 ++ [(q94, .inl (cs.1, 4, .inl fun _ => 0))] := ⟨_, rfl⟩
  have hW : Wn D cs A ((h0, .inr (8, [.int 0, .int 0, .int 0, .int 60, .int 500, .ref q20, .ref q28, .ref q36, .ref q44, .ref q53, .ref q62, .ref q71, .ref q80, .ref q87, .ref q94])) :: (T9 ++ [(q94, .inl (cs.1, 4, .inl fun _ => 0))])) s H locs := hW
  rw [← eT10] at hW
  refine lv_aload_n hC.1 hC.2.1 dk_Told_99 rfl (lv_at hl 0 rfl) ?_
  refine kr_get (b := 13) (w1 := 144) (v := .ref q87) (nm := "limit") (ds := "[I") (N := 15) (fin := true) hC hW rfl (by decide +kernel) (by decide) (by decide +kernel) rfl dk_Told_100 ?_
  refine lv_bipush (v := 20) hC.1 hC.2.1 dk_Told_103 (by decide) ?_
  subst eT1 eT2 eT3 eT4 eT5 eT6 eT7 eT8 eT9 eT10
  have hW : Wn D cs A [(h0, .inr (8, [.int 0, .int 0, .int 0, .int 60, .int 500, .ref q20, .ref q28, .ref q36, .ref q44, .ref q53, .ref q62, .ref q71, .ref q80, .ref q87, .ref q94])), (q20, .inl (cs.1, 12, .inl fun _ => 0)), (q28, .inl (cs.1, 12, .inl fun _ => 0)), (q36, .inl (cs.1, 12, .inl fun _ => 0)), (q44, .inl (cs.1, 60, .inl fun _ => 0)), (q53, .inl (cs.1, 200, .inl fun _ => 0)), (q62, .inl (cs.1, 200, .inl fun _ => 0)), (q71, .inl (cs.1, 200, .inl fun _ => 0)), (q80, .inl (cs.1, 200, .inl fun _ => 0)), (q87, .inl (cs.1, 4, .inl fun _ => 0)), (q94, .inl (cs.1, 4, .inl fun _ => 0))] s H locs := hW
  refine kr_fill (wl := 109) (i0 := 9) (a := q87) (f := fun _ => 0) (x := 20) (isR := [0, 1, 2, 3, 4, 5, 6, 7, 8, 10]) (wr := [(h0, .inr (8, [.int 0, .int 0, .int 0, .int 60, .int 500, .ref q20, .ref q28, .ref q36, .ref q44, .ref q53, .ref q62, .ref q71, .ref q80, .ref q87, .ref q94])), (q20, .inl (cs.1, 12, .inl fun _ => 0)), (q28, .inl (cs.1, 12, .inl fun _ => 0)), (q36, .inl (cs.1, 12, .inl fun _ => 0)), (q44, .inl (cs.1, 60, .inl fun _ => 0)), (q53, .inl (cs.1, 200, .inl fun _ => 0)), (q62, .inl (cs.1, 200, .inl fun _ => 0)), (q71, .inl (cs.1, 200, .inl fun _ => 0)), (q80, .inl (cs.1, 200, .inl fun _ => 0)), (q94, .inl (cs.1, 4, .inl fun _ => 0))]) hC hW rfl rfl (by decide) (by decide) (by decide +kernel) ⟨(by exact Nat.le_of_ble_eq_true rfl), (by exact Nat.le_of_ble_eq_true rfl)⟩ (by exact Nat.le_of_ble_eq_true rfl) (by exact Nat.le_of_ble_eq_true rfl) hl.1 dk_Told_105 (fun H locs hW => ?_)
  have hW : Wn D cs A [(h0, .inr (8, [.int 0, .int 0, .int 0, .int 60, .int 500, .ref q20, .ref q28, .ref q36, .ref q44, .ref q53, .ref q62, .ref q71, .ref q80, .ref q87, .ref q94])), (q20, .inl (cs.1, 12, .inl fun _ => 0)), (q28, .inl (cs.1, 12, .inl fun _ => 0)), (q36, .inl (cs.1, 12, .inl fun _ => 0)), (q44, .inl (cs.1, 60, .inl fun _ => 0)), (q53, .inl (cs.1, 200, .inl fun _ => 0)), (q62, .inl (cs.1, 200, .inl fun _ => 0)), (q71, .inl (cs.1, 200, .inl fun _ => 0)), (q80, .inl (cs.1, 200, .inl fun _ => 0)), (q94, .inl (cs.1, 4, .inl fun _ => 0)), (q87, .inl (cs.1, 4, .inl (upd (upd (upd (upd (fun _ => 0) 0 20) 1 20) 2 20) 3 20)))] s H locs := hW
  refine lv_aload_n hC.1 hC.2.1 dk_Told_108 rfl (lv_at hl 0 rfl) ?_
  refine kr_get (b := 14) (w1 := 147) (v := .ref q94) (nm := "patience") (ds := "[I") (N := 15) (fin := true) hC hW rfl (by decide +kernel) (by decide) (by decide +kernel) rfl dk_Told_109 ?_
  refine lv_iconst (v := 5) hC.1 hC.2.1 dk_Told_112 (by decide) ?_
  have hW : Wn D cs A [(h0, .inr (8, [.int 0, .int 0, .int 0, .int 60, .int 500, .ref q20, .ref q28, .ref q36, .ref q44, .ref q53, .ref q62, .ref q71, .ref q80, .ref q87, .ref q94])), (q20, .inl (cs.1, 12, .inl fun _ => 0)), (q28, .inl (cs.1, 12, .inl fun _ => 0)), (q36, .inl (cs.1, 12, .inl fun _ => 0)), (q44, .inl (cs.1, 60, .inl fun _ => 0)), (q53, .inl (cs.1, 200, .inl fun _ => 0)), (q62, .inl (cs.1, 200, .inl fun _ => 0)), (q71, .inl (cs.1, 200, .inl fun _ => 0)), (q80, .inl (cs.1, 200, .inl fun _ => 0)), (q94, .inl (cs.1, 4, .inl fun _ => 0)), (q87, .inl (cs.1, 4, .inl (upd (upd (upd (upd (fun _ => 0) 0 20) 1 20) 2 20) 3 20)))] s H locs := hW
  refine kr_fill (wl := 109) (i0 := 9) (a := q94) (f := fun _ => 0) (x := 5) (isR := [0, 1, 2, 3, 4, 5, 6, 7, 8, 10]) (wr := [(h0, .inr (8, [.int 0, .int 0, .int 0, .int 60, .int 500, .ref q20, .ref q28, .ref q36, .ref q44, .ref q53, .ref q62, .ref q71, .ref q80, .ref q87, .ref q94])), (q20, .inl (cs.1, 12, .inl fun _ => 0)), (q28, .inl (cs.1, 12, .inl fun _ => 0)), (q36, .inl (cs.1, 12, .inl fun _ => 0)), (q44, .inl (cs.1, 60, .inl fun _ => 0)), (q53, .inl (cs.1, 200, .inl fun _ => 0)), (q62, .inl (cs.1, 200, .inl fun _ => 0)), (q71, .inl (cs.1, 200, .inl fun _ => 0)), (q80, .inl (cs.1, 200, .inl fun _ => 0)), (q87, .inl (cs.1, 4, .inl (upd (upd (upd (upd (fun _ => 0) 0 20) 1 20) 2 20) 3 20)))]) hC hW rfl rfl (by decide) (by decide) (by decide +kernel) ⟨(by exact Nat.le_of_ble_eq_true rfl), (by exact Nat.le_of_ble_eq_true rfl)⟩ (by exact Nat.le_of_ble_eq_true rfl) (by exact Nat.le_of_ble_eq_true rfl) hl.1 dk_Told_113 (fun H locs hW => ?_)
  have hW : Wn D cs A [(h0, .inr (8, [.int 0, .int 0, .int 0, .int 60, .int 500, .ref q20, .ref q28, .ref q36, .ref q44, .ref q53, .ref q62, .ref q71, .ref q80, .ref q87, .ref q94])), (q20, .inl (cs.1, 12, .inl fun _ => 0)), (q28, .inl (cs.1, 12, .inl fun _ => 0)), (q36, .inl (cs.1, 12, .inl fun _ => 0)), (q44, .inl (cs.1, 60, .inl fun _ => 0)), (q53, .inl (cs.1, 200, .inl fun _ => 0)), (q62, .inl (cs.1, 200, .inl fun _ => 0)), (q71, .inl (cs.1, 200, .inl fun _ => 0)), (q80, .inl (cs.1, 200, .inl fun _ => 0)), (q87, .inl (cs.1, 4, .inl (upd (upd (upd (upd (fun _ => 0) 0 20) 1 20) 2 20) 3 20))), (q94, .inl (cs.1, 4, .inl (upd (upd (upd (upd (fun _ => 0) 0 5) 1 5) 2 5) 3 5)))] s H locs := hW
  have u20 : upd (upd (upd (upd (fun _ => (0 : Int32)) 0 20) 1 20) 2 20) 3 20 = sC 10 false 0 := by funext j; exact upd4 20 j
  have u5 : upd (upd (upd (upd (fun _ => (0 : Int32)) 0 5) 1 5) 2 5) 3 5 = sC 11 false 0 := by funext j; exact upd4 5 j
  rw [u20, u5] at hW
  have hE : ([(h0, .inr (8, [.int 0, .int 0, .int 0, .int 60, .int 500, .ref q20, .ref q28, .ref q36, .ref q44, .ref q53, .ref q62, .ref q71, .ref q80, .ref q87, .ref q94])), (q20, .inl (cs.1, 12, .inl fun _ => 0)), (q28, .inl (cs.1, 12, .inl fun _ => 0)), (q36, .inl (cs.1, 12, .inl fun _ => 0)), (q44, .inl (cs.1, 60, .inl fun _ => 0)), (q53, .inl (cs.1, 200, .inl fun _ => 0)), (q62, .inl (cs.1, 200, .inl fun _ => 0)), (q71, .inl (cs.1, 200, .inl fun _ => 0)), (q80, .inl (cs.1, 200, .inl fun _ => 0)), (q87, .inl (cs.1, 4, .inl (sC 10 false 0))), (q94, .inl (cs.1, 4, .inl (sC 11 false 0)))] : va_W) = cnL Lk_Told cs (fun k d i => bif Nat.beq k 1 then h0 else bif Nat.beq k 2 then gdA q20 i else bif Nat.beq k 3 then gdA q28 i else bif Nat.beq k 4 then gdA q36 i else bif Nat.beq k 5 then gdA q44 i else bif Nat.beq k 6 then gdA q53 i else bif Nat.beq k 7 then gdA q62 i else bif Nat.beq k 8 then gdA q71 i else bif Nat.beq k 9 then gdA q80 i else bif Nat.beq k 10 then gdA q87 i else bif Nat.beq k 11 then gdA q94 i else 0) sC := rfl
  refine W.widen (k := 10) (n := 904) (by exact Nat.le_of_ble_eq_true rfl) (by exact Nat.le_of_ble_eq_true rfl) ?_
  exact W.vret hC.1 hC.2.1 hr (fun t ht hWm => ⟨⟨_, rfl, ⟨_, rfl, hE⟩, by rw [ht]; exact hW.1.1, va_K.moved hWm.alike hW.1.2.1.1, hW.1.2.2⟩, hW.2.1.F ht⟩) hW.2.1.2.2 dk_Told_116
