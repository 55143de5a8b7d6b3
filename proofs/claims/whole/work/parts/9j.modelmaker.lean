/-! The model's maker. -/
def tM1 : Sg := fun k _ _ j => bif Nat.beq k 69 then (bif Nat.beq j 16 then 60 else bif Nat.beq j 17 then 500 else 0) else 0
/-- the model's first world, before its day begins -/
def tM0 : Sg := (up4 (up4 (up4 (up4 (up4 (up4 (up4 (up4 tM1 80 false 0 0 20) 81 false 0 0 5) 80 false 0 1 20) 81 false 0 1 5) 80 false 0 2 20) 81 false 0 2 5) 80 false 0 3 20) 81 false 0 3 5)
def tD0 : Dy := fun f i => tM0 (fk f) false 0 (fo f + i)
theorem tM0_Ag : Ag tM0 tD0 tM0 := ⟨fun _ _ _ => rfl, fun _ _ _ _ _ _ => rfl⟩
def mpI {α β : Type} (f : Nat → α → β) : Nat → List α → List β
  | _, [] => []
  | n, x :: l => f n x :: mpI f (n + 1) l
theorem mapIdx_n {α β : Type} (f : Nat → α → β) : ∀ (l : List α) (n : Nat), l.mapIdx (fun i => f (i + n)) = mpI f n l
  | [], n => rfl
  | x :: l, n => by
    rw [List.mapIdx_cons, mpI, ← mapIdx_n f l (n + 1), Nat.zero_add]
    congr 1
    congr 1
    funext i
    rw [Nat.add_assoc, Nat.add_comm 1 n]
theorem mapIdx_I {α β : Type} (f : Nat → α → β) (l : List α) : l.mapIdx f = mpI f 0 l := mapIdx_n f l 0
theorem cel_M (cs : Cs) (as : Ad) (σ : Sg) : cel cs as σ 69 false 0 = .inr (12, [.int (σ 69 false 0 0), .ref (as 70 false 0), .ref (as 71 false 0), .int (σ 69 false 0 3), .ref (as 72 false 0), .ref (as 73 false 0), .ref (as 74 false 0), .int (σ 69 false 0 7), .ref (as 75 false 0), .int (σ 69 false 0 9), .ref (as 76 false 0), .ref (as 77 false 0), .ref (as 78 false 0), .ref (as 79 false 0), .ref (as 80 false 0), .ref (as 81 false 0), .int (σ 69 false 0 16), .int (σ 69 false 0 17), .int (σ 69 false 0 18), .ref (as 82 false 0), .int (σ 69 false 0 20), .ref (as 83 false 0), .int (σ 69 false 0 22), .ref (as 84 false 0), .ref (as 85 false 0), .ref (as 86 false 0), .int (σ 69 false 0 26), .ref (as 87 false 0), .ref (as 88 false 0), .ref (as 89 false 0), .ref (as 90 false 0), .int (σ 69 false 0 31), .ref (as 91 false 0), .ref (as 92 false 0), .int (σ 69 false 0 34), .ref (as 93 false 0), .ref (as 94 false 0), .ref (as 95 false 0), .int (σ 69 false 0 38), .ref (as 96 false 0), .ref (as 97 false 0), .int (σ 69 false 0 41), .ref (as 98 false 0), .ref (as 99 false 0), .ref (as 100 false 0), .ref (as 101 false 0), .ref (as 102 false 0), .ref (as 103 false 0), .ref (as 104 false 0), .int (σ 69 false 0 49)]) := by
  have e : cel cs as σ 69 false 0 = .inr (12, (match shp 69 with | some (_, .inl (_, fs)) => fs | _ => []).mapIdx (objV as (σ 69 false 0) false)) := rfl
  rw [e, mapIdx_I]
  rfl
def Lk_Model : List Lb := (69, false, 0) :: (((((((((((((((((((((((((((((((((((([] : List Lb) ++ lbK 70 false) ++ lbK 71 false) ++ lbK 72 false) ++ lbK 73 false) ++ lbK 74 false) ++ lbK 75 false) ++ lbK 76 false) ++ lbK 77 false) ++ lbK 78 false) ++ lbK 79 false) ++ lbK 80 false) ++ lbK 81 false) ++ lbK 82 false) ++ lbK 83 false) ++ lbK 84 false) ++ lbK 85 false) ++ lbK 86 false) ++ lbK 87 false) ++ lbK 88 false) ++ lbK 89 false) ++ lbK 90 false) ++ lbK 91 false) ++ lbK 92 false) ++ lbK 93 false) ++ lbK 94 false) ++ lbK 95 false) ++ lbK 96 false) ++ lbK 97 false) ++ lbK 98 false) ++ lbK 99 false) ++ lbK 100 false) ++ lbK 101 false) ++ lbK 102 false) ++ lbK 103 false) ++ lbK 104 false)
theorem lbs_M : lbs true = Lk_Model := by decide +kernel
theorem conc_M (cs : Cs) (as : Ad) (σ : Sg) : conc true cs as σ = cnL Lk_Model cs as σ := by
  unfold conc cnL
  rw [lbs_M]
theorem conc_M0 (cs : Cs) (as : Ad) (σ : Sg) : (conc true cs as σ)[0]? = some (as 69 false 0, .inr (12, [.int (σ 69 false 0 0), .ref (as 70 false 0), .ref (as 71 false 0), .int (σ 69 false 0 3), .ref (as 72 false 0), .ref (as 73 false 0), .ref (as 74 false 0), .int (σ 69 false 0 7), .ref (as 75 false 0), .int (σ 69 false 0 9), .ref (as 76 false 0), .ref (as 77 false 0), .ref (as 78 false 0), .ref (as 79 false 0), .ref (as 80 false 0), .ref (as 81 false 0), .int (σ 69 false 0 16), .int (σ 69 false 0 17), .int (σ 69 false 0 18), .ref (as 82 false 0), .int (σ 69 false 0 20), .ref (as 83 false 0), .int (σ 69 false 0 22), .ref (as 84 false 0), .ref (as 85 false 0), .ref (as 86 false 0), .int (σ 69 false 0 26), .ref (as 87 false 0), .ref (as 88 false 0), .ref (as 89 false 0), .ref (as 90 false 0), .int (σ 69 false 0 31), .ref (as 91 false 0), .ref (as 92 false 0), .int (σ 69 false 0 34), .ref (as 93 false 0), .ref (as 94 false 0), .ref (as 95 false 0), .int (σ 69 false 0 38), .ref (as 96 false 0), .ref (as 97 false 0), .int (σ 69 false 0 41), .ref (as 98 false 0), .ref (as 99 false 0), .ref (as 100 false 0), .ref (as 101 false 0), .ref (as 102 false 0), .ref (as 103 false 0), .ref (as 104 false 0), .int (σ 69 false 0 49)])) := by
  rw [conc_M]
  show some (as 69 false 0, cel cs as σ 69 false 0) = _
  rw [cel_M]
section StoreRow
variable {p : Program} {l : Launch} {e : Env} {R : Room} {s : State} {m : MethodId} {args : Array Value} {below : List Frame} {meth : Method} {c : Code} {H : Heap} {locs : List Loc} {cells slots : Nat} {Q : State → Prop}
variable {D : va_G} {cs : Cs} {A : Nat → Prop} {own : String} {cc : ByteArray} {nL pc : Nat} {ls : Array Slot} {rest : List Value}
theorem kr_iast (hC : Cw own cc nL p s m args c) {as : Ad} {σ : Sg} (hW : Wn D cs A (conc true cs as σ) s H locs) {k N : Nat} (hk : (k, false, 0) ∈ lbs true) (he : ∀ σ : Sg, cel cs as σ k false 0 = .inl (cs.1, N, .inl (σ k false 0))) {i x : Int32} (hin : vp_in i N) (hdg : decode cc pc = .ok (.iastore, 1))
    (kk : ∀ (H1 : Heap) (locs1 : List Loc), Wn D cs A (conc true cs as (up4 σ k false 0 i.toNatClampNeg x)) s H1 locs1 → W p l e R s m args below meth c H1 locs1 cells slots Q (F0 m (pc + 1) ls rest)) : W p l e R s m args below meth c H locs cells slots Q (F0 m pc ls (.int x :: .int i :: .ref (as k false 0) :: rest)) := by
  obtain ⟨q, hl, hq⟩ := conc_get (cs := cs) (as := as) (σ := σ) hk
  rw [show cel cs as σ (k, false, 0).1 (k, false, 0).2.1 (k, false, 0).2.2 = _ from he σ] at hq
  refine va_iast hC.1 hC.2.1 hW.1.2.1.1 hW.1.1 hW.1.2.2 hW.2.1 q 0 hq rfl hin hdg (fun H1 locs1 hP hD hS => ?_)
  have ee := conc_set (sd := true) (cs := cs) (as := as) (σ := σ) i.toNatClampNeg x hl
  rw [he (up4 σ k false 0 i.toNatClampNeg x), up4_same] at ee
  rw [ee] at hP hD
  exact kk H1 locs1 ⟨⟨hP, hW.1.2.1, hD⟩, hS, hW.2.2⟩
/-- a call of the model's own, from its maker -/
theorem kr_own (hC : Cw own cc nL p s m args c) {as : Ad} {σ σ2 : Sg} (hW : Wn D cs A (conc true cs as σ) s H locs) {mid idx w1 d : Nat} (ev : Ev true mid [.inr (.inr (69, false, 0))] σ none σ2) (hm : mid < nM) (hS : mS mid = false) (hmc : (mY mid).cls = RX12) (hmp : mP mid = 0) (hd : mH mid ≤ d) (h1 : wAt w1 = some (.methodLink own idx (mY mid))) (hRm : d + 1 ≤ R.frames ∧ 8 + (mN mid + 11) + 38 * d ≤ R.locals) (hc : cells ≤ R.cells) (hs : slots ≤ R.slots) (hsz : ls.size = nL) (hdg : decode cc pc = .ok (.invokevirtual idx, 3))
    (kk : ∀ (H1 : Heap) (locs1 : List Loc), Wn D cs A (conc true cs as σ2) s H1 locs1 → W p l e R s m args below meth c H1 locs1 cells slots Q (F0 m (pc + 3) ls [])) : W p l e R s m args below meth c H locs cells slots Q (F0 m pc ls [.ref (as 69 false 0)]) := by
  obtain ⟨⟨i1, i2⟩, i3, i4, i5, i6, i7, i8⟩ := inf_facts hm
  obtain ⟨j1, j2, j3⟩ := i4 hS
  have hAs : ∀ q, Aof true as H.size q → A q := by
    intro q hq
    rcases hq with ⟨c, hc, rfl⟩ | hq
    · obtain ⟨k, -, hk⟩ := conc_get (cs := cs) (as := as) (σ := σ) hc
      exact hW.1.2.2.2 k _ hk
    · exact hW.2.2 _ (Nat.le_trans hW.2.1.1 hq)
  have hrecv := va_recv (q := (RX12, TX12, 50)) hW.1.2.1.1 hW.1.1 rfl (conc_M0 cs as σ)
  rw [hmp] at i7
  rw [← hmc] at hrecv
  refine va_callv (va_runV (As := []) (rest := []) (b := as 69 false 0) (C := (mY mid).cls) (n := 0) (nL := nL) (Ts := lw_g) hC (ev l D cs as H.size d hd) ⟨callB_of 0 hC.2.2.2.2 (wsM_good hm) rfl rfl rfl (hts_at hC.2.2.2.2 i2) (hts_at hC.2.2.2.2 h1) i7 hRm, hts_at hC.2.2.2.2 j1, hts_at hC.2.2.2.2 j2⟩ ⟨Po_blind, hrecv, fun U hU hWm => ⟨rfl, by rw [hU], by rw [hU]; exact hW.1.1, va_K.moved hWm.alike hW.1.2.1.1, hW.1.2.2.weaken (fun _ _ _ _ => trivial)⟩⟩ rfl rfl hsz rfl (by show 2 * 0 + 0 ≤ 8; omega) hdg ⟨hc, hs⟩) hW.2.1 (fun q _ h => hAs q h) hAs (S := Unit) (post := fun _ => True) (B := Bq true D cs as σ2 (Aof true as H.size)) (fun u t H1 locs1 ht hvm _ hb _ _ hS1 => ?_)
  obtain ⟨b1, b2, b3⟩ := hb
  rw [ht] at b1
  exact kk H1 locs1 ⟨⟨b1, hW.1.2.1, b3.weaken (fun k q _ hq => hAs _ hq)⟩, hS1, hW.2.2⟩
end StoreRow
theorem tM0_n {k j : Nat} (d : Bool) (i : Nat) (h80 : ¬ k = 80) (h81 : ¬ k = 81) : tM0 k d i j = tM1 k d i j := by
  unfold tM0
  rw [up4_nk h81, up4_nk h80, up4_nk h81, up4_nk h80, up4_nk h81, up4_nk h80, up4_nk h81, up4_nk h80]
theorem tM1_z {k j : Nat} (d : Bool) (i : Nat) (h : ¬ (k = 69 ∧ (j = 16 ∨ j = 17))) : tM1 k d i j = nI 0 := by
  unfold tM1
  cases e1 : Nat.beq k 69 with
  | false => rfl
  | true =>
    have hk := Nat.eq_of_beq_eq_true e1
    cases e2 : Nat.beq j 16 with
    | true => exact absurd ⟨hk, Or.inl (Nat.eq_of_beq_eq_true e2)⟩ h
    | false =>
      cases e3 : Nat.beq j 17 with
      | true => exact absurd ⟨hk, Or.inr (Nat.eq_of_beq_eq_true e3)⟩ h
      | false => rfl
theorem tM0_z {k j : Nat} (d : Bool) (i : Nat) (h80 : ¬ k = 80) (h81 : ¬ k = 81) (h : ¬ (k = 69 ∧ (j = 16 ∨ j = 17))) : tM0 k d i j = nI 0 := (tM0_n d i h80 h81).trans (tM1_z d i h)
theorem tM0_is {k j m : Nat} (hm : m < 2147483648) (h80 : ¬ k = 80) (h81 : ¬ k = 81) (h : ¬ (k = 69 ∧ (j = 16 ∨ j = 17))) : Is (tM0 k false 0 j) m := by
  rw [tM0_z false 0 h80 h81 h]
  exact Is_of (Nat.zero_le _) hm
theorem tM0_WN : WN tM0 := ⟨tM0_is (by decide) (by decide) (by decide) (by decide), tM0_is (by decide) (by decide) (by decide) (by decide), tM0_is (by decide) (by decide) (by decide) (by decide)⟩
theorem hE_M (cs : Cs) (h0 q8 q17 q25 q33 q41 q49 q58 q67 q76 q85 q92 q99 q121 q129 q137 q146 q154 q162 q171 q179 q187 q195 q203 q211 q219 q227 q235 q243 q251 q259 q267 q275 q284 q292 q300 : Nat) : ((h0, .inr (12, [.int 0, .ref q8, .ref q17, .int 0, .ref q25, .ref q33, .ref q41, .int 0, .ref q49, .int 0, .ref q58, .ref q67, .ref q76, .ref q85, .ref q92, .ref q99, .int 60, .int 500, .int 0, .ref q121, .int 0, .ref q129, .int 0, .ref q137, .ref q146, .ref q154, .int 0, .ref q162, .ref q171, .ref q179, .ref q187, .int 0, .ref q195, .ref q203, .int 0, .ref q211, .ref q219, .ref q227, .int 0, .ref q235, .ref q243, .int 0, .ref q251, .ref q259, .ref q267, .ref q275, .ref q284, .ref q292, .ref q300, .int 0])) :: (((((((((((((((((((((((((((((((((((([] : va_W) ++ [(q8, .inl (cs.1, 23184, .inl fun _ => 0))]) ++ [(q17, .inl (cs.1, 23184, .inl fun _ => 0))]) ++ [(q25, .inl (cs.1, 12, .inl fun _ => 0))]) ++ [(q33, .inl (cs.1, 12, .inl fun _ => 0))]) ++ [(q41, .inl (cs.1, 12, .inl fun _ => 0))]) ++ [(q49, .inl (cs.1, 60, .inl fun _ => 0))]) ++ [(q58, .inl (cs.1, 200, .inl fun _ => 0))]) ++ [(q67, .inl (cs.1, 200, .inl fun _ => 0))]) ++ [(q76, .inl (cs.1, 200, .inl fun _ => 0))]) ++ [(q85, .inl (cs.1, 200, .inl fun _ => 0))]) ++ [(q92, .inl (cs.1, 4, .inl fun _ => 0))]) ++ [(q99, .inl (cs.1, 4, .inl fun _ => 0))]) ++ [(q121, .inl (cs.1, 800, .inl fun _ => 0))]) ++ [(q129, .inl (cs.1, 40, .inl fun _ => 0))]) ++ [(q137, .inl (cs.1, 10, .inl fun _ => 0))]) ++ [(q146, .inl (cs.1, 400, .inl fun _ => 0))]) ++ [(q154, .inl (cs.2.1, 10, .inl fun _ => 0))]) ++ [(q162, .inl (cs.1, 20, .inl fun _ => 0))]) ++ [(q171, .inl (cs.1, 5760, .inl fun _ => 0))]) ++ [(q179, .inl (cs.1, 12, .inl fun _ => 0))]) ++ [(q187, .inl (cs.1, 50, .inl fun _ => 0))]) ++ [(q195, .inl (cs.1, 12, .inl fun _ => 0))]) ++ [(q203, .inl (cs.1, 12, .inl fun _ => 0))]) ++ [(q211, .inl (cs.1, 40, .inl fun _ => 0))]) ++ [(q219, .inl (cs.1, 40, .inl fun _ => 0))]) ++ [(q227, .inl (cs.1, 40, .inl fun _ => 0))]) ++ [(q235, .inl (cs.1, 60, .inl fun _ => 0))]) ++ [(q243, .inl (cs.2.1, 60, .inl fun _ => 0))]) ++ [(q251, .inl (cs.1, 60, .inl fun _ => 0))]) ++ [(q259, .inl (cs.1, 60, .inl fun _ => 0))]) ++ [(q267, .inl (cs.1, 12, .inl fun _ => 0))]) ++ [(q275, .inl (cs.1, 8, .inl fun _ => 0))]) ++ [(q284, .inl (cs.1, 2304, .inl fun _ => 0))]) ++ [(q292, .inl (cs.2.1, 50, .inl fun _ => 0))]) ++ [(q300, .inl (cs.1, 8, .inl fun _ => 0))]) : va_W) = conc true cs (fun k _ i => bif Nat.beq k 69 then h0 else bif Nat.beq k 70 then gdA q8 i else bif Nat.beq k 71 then gdA q17 i else bif Nat.beq k 72 then gdA q25 i else bif Nat.beq k 73 then gdA q33 i else bif Nat.beq k 74 then gdA q41 i else bif Nat.beq k 75 then gdA q49 i else bif Nat.beq k 76 then gdA q58 i else bif Nat.beq k 77 then gdA q67 i else bif Nat.beq k 78 then gdA q76 i else bif Nat.beq k 79 then gdA q85 i else bif Nat.beq k 80 then gdA q92 i else bif Nat.beq k 81 then gdA q99 i else bif Nat.beq k 82 then gdA q121 i else bif Nat.beq k 83 then gdA q129 i else bif Nat.beq k 84 then gdA q137 i else bif Nat.beq k 85 then gdA q146 i else bif Nat.beq k 86 then gdA q154 i else bif Nat.beq k 87 then gdA q162 i else bif Nat.beq k 88 then gdA q171 i else bif Nat.beq k 89 then gdA q179 i else bif Nat.beq k 90 then gdA q187 i else bif Nat.beq k 91 then gdA q195 i else bif Nat.beq k 92 then gdA q203 i else bif Nat.beq k 93 then gdA q211 i else bif Nat.beq k 94 then gdA q219 i else bif Nat.beq k 95 then gdA q227 i else bif Nat.beq k 96 then gdA q235 i else bif Nat.beq k 97 then gdA q243 i else bif Nat.beq k 98 then gdA q251 i else bif Nat.beq k 99 then gdA q259 i else bif Nat.beq k 100 then gdA q267 i else bif Nat.beq k 101 then gdA q275 i else bif Nat.beq k 102 then gdA q284 i else bif Nat.beq k 103 then gdA q292 i else gdA q300 i) tM1 := by
  generalize eM : (fun k _ i => bif Nat.beq k 69 then h0 else bif Nat.beq k 70 then gdA q8 i else bif Nat.beq k 71 then gdA q17 i else bif Nat.beq k 72 then gdA q25 i else bif Nat.beq k 73 then gdA q33 i else bif Nat.beq k 74 then gdA q41 i else bif Nat.beq k 75 then gdA q49 i else bif Nat.beq k 76 then gdA q58 i else bif Nat.beq k 77 then gdA q67 i else bif Nat.beq k 78 then gdA q76 i else bif Nat.beq k 79 then gdA q85 i else bif Nat.beq k 80 then gdA q92 i else bif Nat.beq k 81 then gdA q99 i else bif Nat.beq k 82 then gdA q121 i else bif Nat.beq k 83 then gdA q129 i else bif Nat.beq k 84 then gdA q137 i else bif Nat.beq k 85 then gdA q146 i else bif Nat.beq k 86 then gdA q154 i else bif Nat.beq k 87 then gdA q162 i else bif Nat.beq k 88 then gdA q171 i else bif Nat.beq k 89 then gdA q179 i else bif Nat.beq k 90 then gdA q187 i else bif Nat.beq k 91 then gdA q195 i else bif Nat.beq k 92 then gdA q203 i else bif Nat.beq k 93 then gdA q211 i else bif Nat.beq k 94 then gdA q219 i else bif Nat.beq k 95 then gdA q227 i else bif Nat.beq k 96 then gdA q235 i else bif Nat.beq k 97 then gdA q243 i else bif Nat.beq k 98 then gdA q251 i else bif Nat.beq k 99 then gdA q259 i else bif Nat.beq k 100 then gdA q267 i else bif Nat.beq k 101 then gdA q275 i else bif Nat.beq k 102 then gdA q284 i else bif Nat.beq k 103 then gdA q292 i else gdA q300 i : Ad) = aM
  have f69 : aM 69 false 0 = h0 := by rw [← eM]; rfl
  have f70 : aM 70 false 0 = q8 := by rw [← eM]; rfl
  have f71 : aM 71 false 0 = q17 := by rw [← eM]; rfl
  have f72 : aM 72 false 0 = q25 := by rw [← eM]; rfl
  have f73 : aM 73 false 0 = q33 := by rw [← eM]; rfl
  have f74 : aM 74 false 0 = q41 := by rw [← eM]; rfl
  have f75 : aM 75 false 0 = q49 := by rw [← eM]; rfl
  have f76 : aM 76 false 0 = q58 := by rw [← eM]; rfl
  have f77 : aM 77 false 0 = q67 := by rw [← eM]; rfl
  have f78 : aM 78 false 0 = q76 := by rw [← eM]; rfl
  have f79 : aM 79 false 0 = q85 := by rw [← eM]; rfl
  have f80 : aM 80 false 0 = q92 := by rw [← eM]; rfl
  have f81 : aM 81 false 0 = q99 := by rw [← eM]; rfl
  have f82 : aM 82 false 0 = q121 := by rw [← eM]; rfl
  have f83 : aM 83 false 0 = q129 := by rw [← eM]; rfl
  have f84 : aM 84 false 0 = q137 := by rw [← eM]; rfl
  have f85 : aM 85 false 0 = q146 := by rw [← eM]; rfl
  have f86 : aM 86 false 0 = q154 := by rw [← eM]; rfl
  have f87 : aM 87 false 0 = q162 := by rw [← eM]; rfl
  have f88 : aM 88 false 0 = q171 := by rw [← eM]; rfl
  have f89 : aM 89 false 0 = q179 := by rw [← eM]; rfl
  have f90 : aM 90 false 0 = q187 := by rw [← eM]; rfl
  have f91 : aM 91 false 0 = q195 := by rw [← eM]; rfl
  have f92 : aM 92 false 0 = q203 := by rw [← eM]; rfl
  have f93 : aM 93 false 0 = q211 := by rw [← eM]; rfl
  have f94 : aM 94 false 0 = q219 := by rw [← eM]; rfl
  have f95 : aM 95 false 0 = q227 := by rw [← eM]; rfl
  have f96 : aM 96 false 0 = q235 := by rw [← eM]; rfl
  have f97 : aM 97 false 0 = q243 := by rw [← eM]; rfl
  have f98 : aM 98 false 0 = q251 := by rw [← eM]; rfl
  have f99 : aM 99 false 0 = q259 := by rw [← eM]; rfl
  have f100 : aM 100 false 0 = q267 := by rw [← eM]; rfl
  have f101 : aM 101 false 0 = q275 := by rw [← eM]; rfl
  have f102 : aM 102 false 0 = q284 := by rw [← eM]; rfl
  have f103 : aM 103 false 0 = q292 := by rw [← eM]; rfl
  have f104 : aM 104 false 0 = q300 := by rw [← eM]; rfl
  have r70 : cnL (lbK 70 false) cs aM tM1 = [(q8, .inl (cs.1, 23184, .inl fun _ => 0))] := by
    rw [← f70]
    rfl
  have r71 : cnL (lbK 71 false) cs aM tM1 = [(q17, .inl (cs.1, 23184, .inl fun _ => 0))] := by
    rw [← f71]
    rfl
  have r72 : cnL (lbK 72 false) cs aM tM1 = [(q25, .inl (cs.1, 12, .inl fun _ => 0))] := by
    rw [← f72]
    rfl
  have r73 : cnL (lbK 73 false) cs aM tM1 = [(q33, .inl (cs.1, 12, .inl fun _ => 0))] := by
    rw [← f73]
    rfl
  have r74 : cnL (lbK 74 false) cs aM tM1 = [(q41, .inl (cs.1, 12, .inl fun _ => 0))] := by
    rw [← f74]
    rfl
  have r75 : cnL (lbK 75 false) cs aM tM1 = [(q49, .inl (cs.1, 60, .inl fun _ => 0))] := by
    rw [← f75]
    rfl
  have r76 : cnL (lbK 76 false) cs aM tM1 = [(q58, .inl (cs.1, 200, .inl fun _ => 0))] := by
    rw [← f76]
    rfl
  have r77 : cnL (lbK 77 false) cs aM tM1 = [(q67, .inl (cs.1, 200, .inl fun _ => 0))] := by
    rw [← f77]
    rfl
  have r78 : cnL (lbK 78 false) cs aM tM1 = [(q76, .inl (cs.1, 200, .inl fun _ => 0))] := by
    rw [← f78]
    rfl
  have r79 : cnL (lbK 79 false) cs aM tM1 = [(q85, .inl (cs.1, 200, .inl fun _ => 0))] := by
    rw [← f79]
    rfl
  have r80 : cnL (lbK 80 false) cs aM tM1 = [(q92, .inl (cs.1, 4, .inl fun _ => 0))] := by
    rw [← f80]
    rfl
  have r81 : cnL (lbK 81 false) cs aM tM1 = [(q99, .inl (cs.1, 4, .inl fun _ => 0))] := by
    rw [← f81]
    rfl
  have r82 : cnL (lbK 82 false) cs aM tM1 = [(q121, .inl (cs.1, 800, .inl fun _ => 0))] := by
    rw [← f82]
    rfl
  have r83 : cnL (lbK 83 false) cs aM tM1 = [(q129, .inl (cs.1, 40, .inl fun _ => 0))] := by
    rw [← f83]
    rfl
  have r84 : cnL (lbK 84 false) cs aM tM1 = [(q137, .inl (cs.1, 10, .inl fun _ => 0))] := by
    rw [← f84]
    rfl
  have r85 : cnL (lbK 85 false) cs aM tM1 = [(q146, .inl (cs.1, 400, .inl fun _ => 0))] := by
    rw [← f85]
    rfl
  have r86 : cnL (lbK 86 false) cs aM tM1 = [(q154, .inl (cs.2.1, 10, .inl fun _ => 0))] := by
    rw [← f86]
    rfl
  have r87 : cnL (lbK 87 false) cs aM tM1 = [(q162, .inl (cs.1, 20, .inl fun _ => 0))] := by
    rw [← f87]
    rfl
  have r88 : cnL (lbK 88 false) cs aM tM1 = [(q171, .inl (cs.1, 5760, .inl fun _ => 0))] := by
    rw [← f88]
    rfl
  have r89 : cnL (lbK 89 false) cs aM tM1 = [(q179, .inl (cs.1, 12, .inl fun _ => 0))] := by
    rw [← f89]
    rfl
  have r90 : cnL (lbK 90 false) cs aM tM1 = [(q187, .inl (cs.1, 50, .inl fun _ => 0))] := by
    rw [← f90]
    rfl
  have r91 : cnL (lbK 91 false) cs aM tM1 = [(q195, .inl (cs.1, 12, .inl fun _ => 0))] := by
    rw [← f91]
    rfl
  have r92 : cnL (lbK 92 false) cs aM tM1 = [(q203, .inl (cs.1, 12, .inl fun _ => 0))] := by
    rw [← f92]
    rfl
  have r93 : cnL (lbK 93 false) cs aM tM1 = [(q211, .inl (cs.1, 40, .inl fun _ => 0))] := by
    rw [← f93]
    rfl
  have r94 : cnL (lbK 94 false) cs aM tM1 = [(q219, .inl (cs.1, 40, .inl fun _ => 0))] := by
    rw [← f94]
    rfl
  have r95 : cnL (lbK 95 false) cs aM tM1 = [(q227, .inl (cs.1, 40, .inl fun _ => 0))] := by
    rw [← f95]
    rfl
  have r96 : cnL (lbK 96 false) cs aM tM1 = [(q235, .inl (cs.1, 60, .inl fun _ => 0))] := by
    rw [← f96]
    rfl
  have r97 : cnL (lbK 97 false) cs aM tM1 = [(q243, .inl (cs.2.1, 60, .inl fun _ => 0))] := by
    rw [← f97]
    rfl
  have r98 : cnL (lbK 98 false) cs aM tM1 = [(q251, .inl (cs.1, 60, .inl fun _ => 0))] := by
    rw [← f98]
    rfl
  have r99 : cnL (lbK 99 false) cs aM tM1 = [(q259, .inl (cs.1, 60, .inl fun _ => 0))] := by
    rw [← f99]
    rfl
  have r100 : cnL (lbK 100 false) cs aM tM1 = [(q267, .inl (cs.1, 12, .inl fun _ => 0))] := by
    rw [← f100]
    rfl
  have r101 : cnL (lbK 101 false) cs aM tM1 = [(q275, .inl (cs.1, 8, .inl fun _ => 0))] := by
    rw [← f101]
    rfl
  have r102 : cnL (lbK 102 false) cs aM tM1 = [(q284, .inl (cs.1, 2304, .inl fun _ => 0))] := by
    rw [← f102]
    rfl
  have r103 : cnL (lbK 103 false) cs aM tM1 = [(q292, .inl (cs.2.1, 50, .inl fun _ => 0))] := by
    rw [← f103]
    rfl
  have r104 : cnL (lbK 104 false) cs aM tM1 = [(q300, .inl (cs.1, 8, .inl fun _ => 0))] := by
    rw [← f104]
    rfl
  clear eM
  rw [conc_M]
  unfold Lk_Model
  rw [cnL_cons, cnL_app, cnL_app, cnL_app, cnL_app, cnL_app, cnL_app, cnL_app, cnL_app, cnL_app, cnL_app, cnL_app, cnL_app, cnL_app, cnL_app, cnL_app, cnL_app, cnL_app, cnL_app, cnL_app, cnL_app, cnL_app, cnL_app, cnL_app, cnL_app, cnL_app, cnL_app, cnL_app, cnL_app, cnL_app, cnL_app, cnL_app, cnL_app, cnL_app, cnL_app, cnL_app, cnL_nil]
  rw [r70, r71, r72, r73, r74, r75, r76, r77, r78, r79, r80, r81, r82, r83, r84, r85, r86, r87, r88, r89, r90, r91, r92, r93, r94, r95, r96, r97, r98, r99, r100, r101, r102, r103, r104]
  show _ = (aM 69 false 0, cel cs aM tM1 69 false 0) :: _
  rw [cel_M, f69, f70, f71, f72, f73, f74, f75, f76, f77, f78, f79, f80, f81, f82, f83, f84, f85, f86, f87, f88, f89, f90, f91, f92, f93, f94, f95, f96, f97, f98, f99, f100, f101, f102, f103, f104]
  rfl
theorem dk_Model_0 : decode prog_14_method_1_code 0 = .ok (.aload_n 0, 1) := by decide +kernel
theorem dk_Model_1 : decode prog_14_method_1_code 1 = .ok (.invokespecial 1, 3) := by decide +kernel
theorem dk_Model_4 : decode prog_14_method_1_code 4 = .ok (.aload_n 0, 1) := by decide +kernel
theorem dk_Model_5 : decode prog_14_method_1_code 5 = .ok (.sipush 23184, 3) := by decide +kernel
theorem dk_Model_8 : decode prog_14_method_1_code 8 = .ok (.newarray .int, 2) := by decide +kernel
theorem dk_Model_10 : decode prog_14_method_1_code 10 = .ok (.putfield 7, 3) := by decide +kernel
theorem dk_Model_13 : decode prog_14_method_1_code 13 = .ok (.aload_n 0, 1) := by decide +kernel
theorem dk_Model_14 : decode prog_14_method_1_code 14 = .ok (.sipush 23184, 3) := by decide +kernel
theorem dk_Model_17 : decode prog_14_method_1_code 17 = .ok (.newarray .int, 2) := by decide +kernel
theorem dk_Model_19 : decode prog_14_method_1_code 19 = .ok (.putfield 13, 3) := by decide +kernel
theorem dk_Model_22 : decode prog_14_method_1_code 22 = .ok (.aload_n 0, 1) := by decide +kernel
theorem dk_Model_23 : decode prog_14_method_1_code 23 = .ok (.bipush 12, 2) := by decide +kernel
theorem dk_Model_25 : decode prog_14_method_1_code 25 = .ok (.newarray .int, 2) := by decide +kernel
theorem dk_Model_27 : decode prog_14_method_1_code 27 = .ok (.putfield 16, 3) := by decide +kernel
theorem dk_Model_30 : decode prog_14_method_1_code 30 = .ok (.aload_n 0, 1) := by decide +kernel
theorem dk_Model_31 : decode prog_14_method_1_code 31 = .ok (.bipush 12, 2) := by decide +kernel
theorem dk_Model_33 : decode prog_14_method_1_code 33 = .ok (.newarray .int, 2) := by decide +kernel
theorem dk_Model_35 : decode prog_14_method_1_code 35 = .ok (.putfield 19, 3) := by decide +kernel
theorem dk_Model_38 : decode prog_14_method_1_code 38 = .ok (.aload_n 0, 1) := by decide +kernel
theorem dk_Model_39 : decode prog_14_method_1_code 39 = .ok (.bipush 12, 2) := by decide +kernel
theorem dk_Model_41 : decode prog_14_method_1_code 41 = .ok (.newarray .int, 2) := by decide +kernel
theorem dk_Model_43 : decode prog_14_method_1_code 43 = .ok (.putfield 22, 3) := by decide +kernel
theorem dk_Model_46 : decode prog_14_method_1_code 46 = .ok (.aload_n 0, 1) := by decide +kernel
theorem dk_Model_47 : decode prog_14_method_1_code 47 = .ok (.bipush 60, 2) := by decide +kernel
theorem dk_Model_49 : decode prog_14_method_1_code 49 = .ok (.newarray .int, 2) := by decide +kernel
theorem dk_Model_51 : decode prog_14_method_1_code 51 = .ok (.putfield 25, 3) := by decide +kernel
theorem dk_Model_54 : decode prog_14_method_1_code 54 = .ok (.aload_n 0, 1) := by decide +kernel
theorem dk_Model_55 : decode prog_14_method_1_code 55 = .ok (.sipush 200, 3) := by decide +kernel
theorem dk_Model_58 : decode prog_14_method_1_code 58 = .ok (.newarray .int, 2) := by decide +kernel
theorem dk_Model_60 : decode prog_14_method_1_code 60 = .ok (.putfield 28, 3) := by decide +kernel
theorem dk_Model_63 : decode prog_14_method_1_code 63 = .ok (.aload_n 0, 1) := by decide +kernel
theorem dk_Model_64 : decode prog_14_method_1_code 64 = .ok (.sipush 200, 3) := by decide +kernel
theorem dk_Model_67 : decode prog_14_method_1_code 67 = .ok (.newarray .int, 2) := by decide +kernel
theorem dk_Model_69 : decode prog_14_method_1_code 69 = .ok (.putfield 31, 3) := by decide +kernel
theorem dk_Model_72 : decode prog_14_method_1_code 72 = .ok (.aload_n 0, 1) := by decide +kernel
theorem dk_Model_73 : decode prog_14_method_1_code 73 = .ok (.sipush 200, 3) := by decide +kernel
theorem dk_Model_76 : decode prog_14_method_1_code 76 = .ok (.newarray .int, 2) := by decide +kernel
theorem dk_Model_78 : decode prog_14_method_1_code 78 = .ok (.putfield 34, 3) := by decide +kernel
theorem dk_Model_81 : decode prog_14_method_1_code 81 = .ok (.aload_n 0, 1) := by decide +kernel
theorem dk_Model_82 : decode prog_14_method_1_code 82 = .ok (.sipush 200, 3) := by decide +kernel
theorem dk_Model_85 : decode prog_14_method_1_code 85 = .ok (.newarray .int, 2) := by decide +kernel
theorem dk_Model_87 : decode prog_14_method_1_code 87 = .ok (.putfield 37, 3) := by decide +kernel
theorem dk_Model_90 : decode prog_14_method_1_code 90 = .ok (.aload_n 0, 1) := by decide +kernel
theorem dk_Model_91 : decode prog_14_method_1_code 91 = .ok (.iconst 4, 1) := by decide +kernel
theorem dk_Model_92 : decode prog_14_method_1_code 92 = .ok (.newarray .int, 2) := by decide +kernel
theorem dk_Model_94 : decode prog_14_method_1_code 94 = .ok (.putfield 40, 3) := by decide +kernel
theorem dk_Model_97 : decode prog_14_method_1_code 97 = .ok (.aload_n 0, 1) := by decide +kernel
theorem dk_Model_98 : decode prog_14_method_1_code 98 = .ok (.iconst 4, 1) := by decide +kernel
theorem dk_Model_99 : decode prog_14_method_1_code 99 = .ok (.newarray .int, 2) := by decide +kernel
theorem dk_Model_101 : decode prog_14_method_1_code 101 = .ok (.putfield 43, 3) := by decide +kernel
theorem dk_Model_104 : decode prog_14_method_1_code 104 = .ok (.aload_n 0, 1) := by decide +kernel
theorem dk_Model_105 : decode prog_14_method_1_code 105 = .ok (.bipush 60, 2) := by decide +kernel
theorem dk_Model_107 : decode prog_14_method_1_code 107 = .ok (.putfield 46, 3) := by decide +kernel
theorem dk_Model_110 : decode prog_14_method_1_code 110 = .ok (.aload_n 0, 1) := by decide +kernel
theorem dk_Model_111 : decode prog_14_method_1_code 111 = .ok (.sipush 500, 3) := by decide +kernel
theorem dk_Model_114 : decode prog_14_method_1_code 114 = .ok (.putfield 50, 3) := by decide +kernel
theorem dk_Model_117 : decode prog_14_method_1_code 117 = .ok (.aload_n 0, 1) := by decide +kernel
theorem dk_Model_118 : decode prog_14_method_1_code 118 = .ok (.sipush 800, 3) := by decide +kernel
theorem dk_Model_121 : decode prog_14_method_1_code 121 = .ok (.newarray .int, 2) := by decide +kernel
theorem dk_Model_123 : decode prog_14_method_1_code 123 = .ok (.putfield 53, 3) := by decide +kernel
theorem dk_Model_126 : decode prog_14_method_1_code 126 = .ok (.aload_n 0, 1) := by decide +kernel
theorem dk_Model_127 : decode prog_14_method_1_code 127 = .ok (.bipush 40, 2) := by decide +kernel
theorem dk_Model_129 : decode prog_14_method_1_code 129 = .ok (.newarray .int, 2) := by decide +kernel
theorem dk_Model_131 : decode prog_14_method_1_code 131 = .ok (.putfield 56, 3) := by decide +kernel
theorem dk_Model_134 : decode prog_14_method_1_code 134 = .ok (.aload_n 0, 1) := by decide +kernel
theorem dk_Model_135 : decode prog_14_method_1_code 135 = .ok (.bipush 10, 2) := by decide +kernel
theorem dk_Model_137 : decode prog_14_method_1_code 137 = .ok (.newarray .int, 2) := by decide +kernel
theorem dk_Model_139 : decode prog_14_method_1_code 139 = .ok (.putfield 59, 3) := by decide +kernel
theorem dk_Model_142 : decode prog_14_method_1_code 142 = .ok (.aload_n 0, 1) := by decide +kernel
theorem dk_Model_143 : decode prog_14_method_1_code 143 = .ok (.sipush 400, 3) := by decide +kernel
theorem dk_Model_146 : decode prog_14_method_1_code 146 = .ok (.newarray .int, 2) := by decide +kernel
theorem dk_Model_148 : decode prog_14_method_1_code 148 = .ok (.putfield 62, 3) := by decide +kernel
theorem dk_Model_151 : decode prog_14_method_1_code 151 = .ok (.aload_n 0, 1) := by decide +kernel
theorem dk_Model_152 : decode prog_14_method_1_code 152 = .ok (.bipush 10, 2) := by decide +kernel
theorem dk_Model_154 : decode prog_14_method_1_code 154 = .ok (.newarray .boolean, 2) := by decide +kernel
theorem dk_Model_156 : decode prog_14_method_1_code 156 = .ok (.putfield 65, 3) := by decide +kernel
theorem dk_Model_159 : decode prog_14_method_1_code 159 = .ok (.aload_n 0, 1) := by decide +kernel
theorem dk_Model_160 : decode prog_14_method_1_code 160 = .ok (.bipush 20, 2) := by decide +kernel
theorem dk_Model_162 : decode prog_14_method_1_code 162 = .ok (.newarray .int, 2) := by decide +kernel
theorem dk_Model_164 : decode prog_14_method_1_code 164 = .ok (.putfield 69, 3) := by decide +kernel
theorem dk_Model_167 : decode prog_14_method_1_code 167 = .ok (.aload_n 0, 1) := by decide +kernel
theorem dk_Model_168 : decode prog_14_method_1_code 168 = .ok (.sipush 5760, 3) := by decide +kernel
theorem dk_Model_171 : decode prog_14_method_1_code 171 = .ok (.newarray .int, 2) := by decide +kernel
theorem dk_Model_173 : decode prog_14_method_1_code 173 = .ok (.putfield 72, 3) := by decide +kernel
theorem dk_Model_176 : decode prog_14_method_1_code 176 = .ok (.aload_n 0, 1) := by decide +kernel
theorem dk_Model_177 : decode prog_14_method_1_code 177 = .ok (.bipush 12, 2) := by decide +kernel
theorem dk_Model_179 : decode prog_14_method_1_code 179 = .ok (.newarray .int, 2) := by decide +kernel
theorem dk_Model_181 : decode prog_14_method_1_code 181 = .ok (.putfield 75, 3) := by decide +kernel
theorem dk_Model_184 : decode prog_14_method_1_code 184 = .ok (.aload_n 0, 1) := by decide +kernel
theorem dk_Model_185 : decode prog_14_method_1_code 185 = .ok (.bipush 50, 2) := by decide +kernel
theorem dk_Model_187 : decode prog_14_method_1_code 187 = .ok (.newarray .int, 2) := by decide +kernel
theorem dk_Model_189 : decode prog_14_method_1_code 189 = .ok (.putfield 78, 3) := by decide +kernel
theorem dk_Model_192 : decode prog_14_method_1_code 192 = .ok (.aload_n 0, 1) := by decide +kernel
theorem dk_Model_193 : decode prog_14_method_1_code 193 = .ok (.bipush 12, 2) := by decide +kernel
theorem dk_Model_195 : decode prog_14_method_1_code 195 = .ok (.newarray .int, 2) := by decide +kernel
theorem dk_Model_197 : decode prog_14_method_1_code 197 = .ok (.putfield 81, 3) := by decide +kernel
theorem dk_Model_200 : decode prog_14_method_1_code 200 = .ok (.aload_n 0, 1) := by decide +kernel
theorem dk_Model_201 : decode prog_14_method_1_code 201 = .ok (.bipush 12, 2) := by decide +kernel
theorem dk_Model_203 : decode prog_14_method_1_code 203 = .ok (.newarray .int, 2) := by decide +kernel
theorem dk_Model_205 : decode prog_14_method_1_code 205 = .ok (.putfield 84, 3) := by decide +kernel
theorem dk_Model_208 : decode prog_14_method_1_code 208 = .ok (.aload_n 0, 1) := by decide +kernel
theorem dk_Model_209 : decode prog_14_method_1_code 209 = .ok (.bipush 40, 2) := by decide +kernel
theorem dk_Model_211 : decode prog_14_method_1_code 211 = .ok (.newarray .int, 2) := by decide +kernel
theorem dk_Model_213 : decode prog_14_method_1_code 213 = .ok (.putfield 87, 3) := by decide +kernel
theorem dk_Model_216 : decode prog_14_method_1_code 216 = .ok (.aload_n 0, 1) := by decide +kernel
theorem dk_Model_217 : decode prog_14_method_1_code 217 = .ok (.bipush 40, 2) := by decide +kernel
theorem dk_Model_219 : decode prog_14_method_1_code 219 = .ok (.newarray .int, 2) := by decide +kernel
theorem dk_Model_221 : decode prog_14_method_1_code 221 = .ok (.putfield 90, 3) := by decide +kernel
theorem dk_Model_224 : decode prog_14_method_1_code 224 = .ok (.aload_n 0, 1) := by decide +kernel
theorem dk_Model_225 : decode prog_14_method_1_code 225 = .ok (.bipush 40, 2) := by decide +kernel
theorem dk_Model_227 : decode prog_14_method_1_code 227 = .ok (.newarray .int, 2) := by decide +kernel
theorem dk_Model_229 : decode prog_14_method_1_code 229 = .ok (.putfield 93, 3) := by decide +kernel
theorem dk_Model_232 : decode prog_14_method_1_code 232 = .ok (.aload_n 0, 1) := by decide +kernel
theorem dk_Model_233 : decode prog_14_method_1_code 233 = .ok (.bipush 60, 2) := by decide +kernel
theorem dk_Model_235 : decode prog_14_method_1_code 235 = .ok (.newarray .int, 2) := by decide +kernel
theorem dk_Model_237 : decode prog_14_method_1_code 237 = .ok (.putfield 96, 3) := by decide +kernel
theorem dk_Model_240 : decode prog_14_method_1_code 240 = .ok (.aload_n 0, 1) := by decide +kernel
theorem dk_Model_241 : decode prog_14_method_1_code 241 = .ok (.bipush 60, 2) := by decide +kernel
theorem dk_Model_243 : decode prog_14_method_1_code 243 = .ok (.newarray .boolean, 2) := by decide +kernel
theorem dk_Model_245 : decode prog_14_method_1_code 245 = .ok (.putfield 99, 3) := by decide +kernel
theorem dk_Model_248 : decode prog_14_method_1_code 248 = .ok (.aload_n 0, 1) := by decide +kernel
theorem dk_Model_249 : decode prog_14_method_1_code 249 = .ok (.bipush 60, 2) := by decide +kernel
theorem dk_Model_251 : decode prog_14_method_1_code 251 = .ok (.newarray .int, 2) := by decide +kernel
theorem dk_Model_253 : decode prog_14_method_1_code 253 = .ok (.putfield 102, 3) := by decide +kernel
theorem dk_Model_256 : decode prog_14_method_1_code 256 = .ok (.aload_n 0, 1) := by decide +kernel
theorem dk_Model_257 : decode prog_14_method_1_code 257 = .ok (.bipush 60, 2) := by decide +kernel
theorem dk_Model_259 : decode prog_14_method_1_code 259 = .ok (.newarray .int, 2) := by decide +kernel
theorem dk_Model_261 : decode prog_14_method_1_code 261 = .ok (.putfield 105, 3) := by decide +kernel
theorem dk_Model_264 : decode prog_14_method_1_code 264 = .ok (.aload_n 0, 1) := by decide +kernel
theorem dk_Model_265 : decode prog_14_method_1_code 265 = .ok (.bipush 12, 2) := by decide +kernel
theorem dk_Model_267 : decode prog_14_method_1_code 267 = .ok (.newarray .int, 2) := by decide +kernel
theorem dk_Model_269 : decode prog_14_method_1_code 269 = .ok (.putfield 108, 3) := by decide +kernel
theorem dk_Model_272 : decode prog_14_method_1_code 272 = .ok (.aload_n 0, 1) := by decide +kernel
theorem dk_Model_273 : decode prog_14_method_1_code 273 = .ok (.bipush 8, 2) := by decide +kernel
theorem dk_Model_275 : decode prog_14_method_1_code 275 = .ok (.newarray .int, 2) := by decide +kernel
theorem dk_Model_277 : decode prog_14_method_1_code 277 = .ok (.putfield 111, 3) := by decide +kernel
theorem dk_Model_280 : decode prog_14_method_1_code 280 = .ok (.aload_n 0, 1) := by decide +kernel
theorem dk_Model_281 : decode prog_14_method_1_code 281 = .ok (.sipush 2304, 3) := by decide +kernel
theorem dk_Model_284 : decode prog_14_method_1_code 284 = .ok (.newarray .int, 2) := by decide +kernel
theorem dk_Model_286 : decode prog_14_method_1_code 286 = .ok (.putfield 114, 3) := by decide +kernel
theorem dk_Model_289 : decode prog_14_method_1_code 289 = .ok (.aload_n 0, 1) := by decide +kernel
theorem dk_Model_290 : decode prog_14_method_1_code 290 = .ok (.bipush 50, 2) := by decide +kernel
theorem dk_Model_292 : decode prog_14_method_1_code 292 = .ok (.newarray .boolean, 2) := by decide +kernel
theorem dk_Model_294 : decode prog_14_method_1_code 294 = .ok (.putfield 117, 3) := by decide +kernel
theorem dk_Model_297 : decode prog_14_method_1_code 297 = .ok (.aload_n 0, 1) := by decide +kernel
theorem dk_Model_298 : decode prog_14_method_1_code 298 = .ok (.bipush 8, 2) := by decide +kernel
theorem dk_Model_300 : decode prog_14_method_1_code 300 = .ok (.newarray .int, 2) := by decide +kernel
theorem dk_Model_302 : decode prog_14_method_1_code 302 = .ok (.putfield 120, 3) := by decide +kernel
theorem dk_Model_305 : decode prog_14_method_1_code 305 = .ok (.iconst 0, 1) := by decide +kernel
theorem dk_Model_306 : decode prog_14_method_1_code 306 = .ok (.istore_n 1, 1) := by decide +kernel
theorem dk_Model_307 : decode prog_14_method_1_code 307 = .ok (.iload_n 1, 1) := by decide +kernel
theorem dk_Model_308 : decode prog_14_method_1_code 308 = .ok (.iconst 4, 1) := by decide +kernel
theorem dk_Model_309 : decode prog_14_method_1_code 309 = .ok (.if_icmp .ge 24, 3) := by decide +kernel
theorem dk_Model_312 : decode prog_14_method_1_code 312 = .ok (.aload_n 0, 1) := by decide +kernel
theorem dk_Model_313 : decode prog_14_method_1_code 313 = .ok (.getfield 40, 3) := by decide +kernel
theorem dk_Model_316 : decode prog_14_method_1_code 316 = .ok (.iload_n 1, 1) := by decide +kernel
theorem dk_Model_317 : decode prog_14_method_1_code 317 = .ok (.bipush 20, 2) := by decide +kernel
theorem dk_Model_319 : decode prog_14_method_1_code 319 = .ok (.iastore, 1) := by decide +kernel
theorem dk_Model_320 : decode prog_14_method_1_code 320 = .ok (.aload_n 0, 1) := by decide +kernel
theorem dk_Model_321 : decode prog_14_method_1_code 321 = .ok (.getfield 43, 3) := by decide +kernel
theorem dk_Model_324 : decode prog_14_method_1_code 324 = .ok (.iload_n 1, 1) := by decide +kernel
theorem dk_Model_325 : decode prog_14_method_1_code 325 = .ok (.iconst 5, 1) := by decide +kernel
theorem dk_Model_326 : decode prog_14_method_1_code 326 = .ok (.iastore, 1) := by decide +kernel
theorem dk_Model_327 : decode prog_14_method_1_code 327 = .ok (.iinc 1 1, 3) := by decide +kernel
theorem dk_Model_330 : decode prog_14_method_1_code 330 = .ok (.goto (-23), 3) := by decide +kernel
theorem dk_Model_333 : decode prog_14_method_1_code 333 = .ok (.aload_n 0, 1) := by decide +kernel
theorem dk_Model_334 : decode prog_14_method_1_code 334 = .ok (.invokevirtual 123, 3) := by decide +kernel
theorem dk_Model_337 : decode prog_14_method_1_code 337 = .ok (.return_, 1) := by decide +kernel
