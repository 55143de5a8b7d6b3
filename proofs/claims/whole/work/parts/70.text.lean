/-! Where a text's fault is: the class. -/
def sbT (s : Nat) : Option Nat := if s = 17 ∨ s = 18 then some 0 else if s = 16 then some 5 else if s = 20 then some 6 else none
def sbR (c s : Nat) : Option Nat :=
  match c with
  | 0 => if s = 19 ∨ s = 15 then some 0 else if isU s then some 2 else none
  | 1 => if isU s then some 2 else none
  | 2 => if s = 10 ∨ s = 11 then some 1 else if 12 ≤ s ∧ s ≤ 14 then some 3 else none
  | 3 => if isU s then some 4 else none
  | 4 => if s = 10 ∨ s = 11 then some 3 else sbT s
  | 5 => sbT s
  | 6 => if s = 23 then some 7 else if 28 ≤ s then some 10 else none
  | 7 => if s = 13 then some 8 else none
  | 8 => if isU s then some 9 else none
  | 9 => if s = 10 ∨ s = 11 then some 8 else none
  | _ => none
def cm (st : Nat) : Nat := match st with
  | 2 => 3
  | 3 => 8
  | 4 => 2
  | 5 => 4
  | 6 => 9
  | 7 => 5
  | 8 => 6
  | 9 => 7
  | n => n
def oC : Option Nat → Int32
  | none => -1
  | some c => nI c
theorem cmx_le {st : Nat} (h : st ≤ 10) : cm st ≤ 10 := by
  rcases (show st = 0 ∨ st = 1 ∨ st = 2 ∨ st = 3 ∨ st = 4 ∨ st = 5 ∨ st = 6 ∨ st = 7 ∨ st = 8 ∨ st = 9 ∨ st = 10 by omega) with rfl | rfl | rfl | rfl | rfl | rfl | rfl | rfl | rfl | rfl | rfl <;> decide
theorem cm_end {st : Nat} (h : st ≤ 10) : (st = 6 ∨ st = 10) ↔ (cm st = 9 ∨ cm st = 10) := by
  rcases (show st = 0 ∨ st = 1 ∨ st = 2 ∨ st = 3 ∨ st = 4 ∨ st = 5 ∨ st = 6 ∨ st = 7 ∨ st = 8 ∨ st = 9 ∨ st = 10 by omega) with rfl | rfl | rfl | rfl | rfl | rfl | rfl | rfl | rfl | rfl | rfl <;> decide
theorem sbT_le {s c : Nat} (h : sbT s = some c) : c ≤ 10 := by
  unfold sbT at h
  repeat' split at h
  all_goals first | (cases h; omega) | cases h
theorem sbR_le {c s x : Nat} (h : sbR c s = some x) : x ≤ 10 := by
  unfold sbR at h
  repeat' split at h
  all_goals first | (cases h; omega) | (exact sbT_le h) | cases h
theorem nxs_0 (op dg s : Nat) : nxs 0 op dg s = (if s = 19 then some (0, op) else if s = 15 ∧ op < 8 then some (0, op + 1) else if isU s then some (4, op) else none : Option (Nat × Nat)) := rfl
theorem sbR_0 (s : Nat) : sbR (cm 0) s = (if s = 19 ∨ s = 15 then some 0 else if isU s then some 2 else none : Option Nat) := rfl
theorem nxs_1 (op dg s : Nat) : nxs 1 op dg s = (if isU s then some (4, op) else none : Option (Nat × Nat)) := rfl
theorem sbR_1 (s : Nat) : sbR (cm 1) s = (if isU s then some 2 else none : Option Nat) := rfl
theorem nxs_2 (op dg s : Nat) : nxs 2 op dg s = (if isU s then some (5, op) else none : Option (Nat × Nat)) := rfl
theorem sbR_2 (s : Nat) : sbR (cm 2) s = (if isU s then some 4 else none : Option Nat) := rfl
theorem nxs_3 (op dg s : Nat) : nxs 3 op dg s = (if isU s then some (6, op) else none : Option (Nat × Nat)) := rfl
theorem sbR_3 (s : Nat) : sbR (cm 3) s = (if isU s then some 9 else none : Option Nat) := rfl
theorem nxs_4 (op dg s : Nat) : nxs 4 op dg s = (if s < 10 ∧ 0 < dg then (if dg < 3 then some (4, op) else none) else if s = 10 ∨ s = 11 then some (1, op) else (if 12 ≤ s ∧ s ≤ 14 then some (2, op) else none) : Option (Nat × Nat)) := rfl
theorem sbR_4 (s : Nat) : sbR (cm 4) s = (if s = 10 ∨ s = 11 then some 1 else if 12 ≤ s ∧ s ≤ 14 then some 3 else none : Option Nat) := rfl
theorem nxs_5 (op dg s : Nat) : nxs 5 op dg s = (if s < 10 ∧ 0 < dg then (if dg < 3 then some (5, op) else none) else if s = 10 ∨ s = 11 then some (2, op) else (if s = 17 ∨ s = 18 then some (0, op) else if s = 16 ∧ 0 < op then some (7, op - 1) else if s = 20 ∧ op = 0 then some (8, op) else none) : Option (Nat × Nat)) := rfl
theorem sbR_5 (s : Nat) : sbR (cm 5) s = (if s = 10 ∨ s = 11 then some 3 else if s = 17 ∨ s = 18 then some 0 else if s = 16 then some 5 else if s = 20 then some 6 else none : Option Nat) := rfl
theorem nxs_6 (op dg s : Nat) : nxs 6 op dg s = (if s < 10 ∧ 0 < dg then (if dg < 3 then some (6, op) else none) else if s = 10 ∨ s = 11 then some (3, op) else (none) : Option (Nat × Nat)) := rfl
theorem sbR_6 (s : Nat) : sbR (cm 6) s = (if s = 10 ∨ s = 11 then some 8 else none : Option Nat) := rfl
theorem nxs_7 (op dg s : Nat) : nxs 7 op dg s = (if s = 17 ∨ s = 18 then some (0, op) else if s = 16 ∧ 0 < op then some (7, op - 1) else if s = 20 ∧ op = 0 then some (8, op) else none : Option (Nat × Nat)) := rfl
theorem sbR_7 (s : Nat) : sbR (cm 7) s = (if s = 17 ∨ s = 18 then some 0 else if s = 16 then some 5 else if s = 20 then some 6 else none : Option Nat) := rfl
theorem nxs_8 (op dg s : Nat) : nxs 8 op dg s = (if s = 23 then some (9, op) else if 28 ≤ s ∧ s ≤ 30 then some (10, op) else none : Option (Nat × Nat)) := rfl
theorem sbR_8 (s : Nat) : sbR (cm 8) s = (if s = 23 then some 7 else if 28 ≤ s then some 10 else none : Option Nat) := rfl
theorem nxs_9 (op dg s : Nat) : nxs 9 op dg s = (if s = 13 then some (3, op) else none : Option (Nat × Nat)) := rfl
theorem sbR_9 (s : Nat) : sbR (cm 9) s = (if s = 13 then some 8 else none : Option Nat) := rfl
theorem nxs_10 (op dg s : Nat) : nxs 10 op dg s = (none : Option (Nat × Nat)) := rfl
theorem sbR_10 (s : Nat) : sbR (cm 10) s = (none : Option Nat) := rfl
/-- one symbol, behind the digits and the brackets -/
theorem nx_sb {st op dg s : Nat} (hst : st ≤ 10) (h0 : ¬ (s < 10 ∧ 0 < dg)) (h1 : ¬ (s = 15 ∧ op = 8)) (h2 : ¬ (s = 16 ∧ op = 0)) (h3 : ¬ (s = 20 ∧ 0 < op)) (hop : op ≤ 8) (hs : s ≤ 30) : (nxs st op dg s).map (fun r => (cm r.1, r.2)) = (sbR (cm st) s).map (fun c => (c, if s = 15 then op + 1 else if s = 16 then op - 1 else op)) := by
  rcases (show st = 0 ∨ st = 1 ∨ st = 2 ∨ st = 3 ∨ st = 4 ∨ st = 5 ∨ st = 6 ∨ st = 7 ∨ st = 8 ∨ st = 9 ∨ st = 10 by omega) with rfl | rfl | rfl | rfl | rfl | rfl | rfl | rfl | rfl | rfl | rfl
  · rw [nxs_0, sbR_0]
    (repeat' split)
    all_goals first | rfl | (exfalso; omega) | (show some (_, _) = some (_, if s = 15 then op + 1 else if s = 16 then op - 1 else op); first | (rw [if_neg (by omega), if_neg (by omega)]; rfl) | (rw [if_pos (by omega)]; rfl) | (rw [if_neg (by omega), if_pos (by omega)]; rfl))
  · rw [nxs_1, sbR_1]
    (repeat' split)
    all_goals first | rfl | (exfalso; omega) | (show some (_, _) = some (_, if s = 15 then op + 1 else if s = 16 then op - 1 else op); first | (rw [if_neg (by omega), if_neg (by omega)]; rfl) | (rw [if_pos (by omega)]; rfl) | (rw [if_neg (by omega), if_pos (by omega)]; rfl))
  · rw [nxs_2, sbR_2]
    (repeat' split)
    all_goals first | rfl | (exfalso; omega) | (show some (_, _) = some (_, if s = 15 then op + 1 else if s = 16 then op - 1 else op); first | (rw [if_neg (by omega), if_neg (by omega)]; rfl) | (rw [if_pos (by omega)]; rfl) | (rw [if_neg (by omega), if_pos (by omega)]; rfl))
  · rw [nxs_3, sbR_3]
    (repeat' split)
    all_goals first | rfl | (exfalso; omega) | (show some (_, _) = some (_, if s = 15 then op + 1 else if s = 16 then op - 1 else op); first | (rw [if_neg (by omega), if_neg (by omega)]; rfl) | (rw [if_pos (by omega)]; rfl) | (rw [if_neg (by omega), if_pos (by omega)]; rfl))
  · rw [nxs_4, sbR_4]
    (repeat' split)
    all_goals first | rfl | (exfalso; omega) | (show some (_, _) = some (_, if s = 15 then op + 1 else if s = 16 then op - 1 else op); first | (rw [if_neg (by omega), if_neg (by omega)]; rfl) | (rw [if_pos (by omega)]; rfl) | (rw [if_neg (by omega), if_pos (by omega)]; rfl))
  · rw [nxs_5, sbR_5]
    (repeat' split)
    all_goals first | rfl | (exfalso; omega) | (show some (_, _) = some (_, if s = 15 then op + 1 else if s = 16 then op - 1 else op); first | (rw [if_neg (by omega), if_neg (by omega)]; rfl) | (rw [if_pos (by omega)]; rfl) | (rw [if_neg (by omega), if_pos (by omega)]; rfl))
  · rw [nxs_6, sbR_6]
    (repeat' split)
    all_goals first | rfl | (exfalso; omega) | (show some (_, _) = some (_, if s = 15 then op + 1 else if s = 16 then op - 1 else op); first | (rw [if_neg (by omega), if_neg (by omega)]; rfl) | (rw [if_pos (by omega)]; rfl) | (rw [if_neg (by omega), if_pos (by omega)]; rfl))
  · rw [nxs_7, sbR_7]
    (repeat' split)
    all_goals first | rfl | (exfalso; omega) | (show some (_, _) = some (_, if s = 15 then op + 1 else if s = 16 then op - 1 else op); first | (rw [if_neg (by omega), if_neg (by omega)]; rfl) | (rw [if_pos (by omega)]; rfl) | (rw [if_neg (by omega), if_pos (by omega)]; rfl))
  · rw [nxs_8, sbR_8]
    (repeat' split)
    all_goals first | rfl | (exfalso; omega) | (show some (_, _) = some (_, if s = 15 then op + 1 else if s = 16 then op - 1 else op); first | (rw [if_neg (by omega), if_neg (by omega)]; rfl) | (rw [if_pos (by omega)]; rfl) | (rw [if_neg (by omega), if_pos (by omega)]; rfl))
  · rw [nxs_9, sbR_9]
    (repeat' split)
    all_goals first | rfl | (exfalso; omega) | (show some (_, _) = some (_, if s = 15 then op + 1 else if s = 16 then op - 1 else op); first | (rw [if_neg (by omega), if_neg (by omega)]; rfl) | (rw [if_pos (by omega)]; rfl) | (rw [if_neg (by omega), if_pos (by omega)]; rfl))
  · rw [nxs_10, sbR_10]
    (repeat' split)
    all_goals first | rfl | (exfalso; omega) | (show some (_, _) = some (_, if s = 15 then op + 1 else if s = 16 then op - 1 else op); first | (rw [if_neg (by omega), if_neg (by omega)]; rfl) | (rw [if_pos (by omega)]; rfl) | (rw [if_neg (by omega), if_pos (by omega)]; rfl))
theorem nx_bad {st op dg s : Nat} (h : (s = 15 ∧ op = 8) ∨ (s = 16 ∧ op = 0) ∨ (s = 20 ∧ 0 < op)) : nxs st op dg s = none := by
  unfold nxs beh
  repeat' split
  all_goals first | rfl | (exfalso; omega)
theorem nx_dg {st op dg s : Nat} (h4 : 4 ≤ st) (h6 : st ≤ 6) (hs : s < 10) (hd : 0 < dg) : nxs st op dg s = if dg < 3 then some (st, op) else none := by
  unfold nxs
  rw [if_neg (by omega), if_neg (by omega), if_pos (by omega), if_pos ⟨hs, hd⟩]
theorem nx_lo {st op dg s : Nat} (hst : st ≤ 10) (hs : s < 10) {r : Nat × Nat} (h : nxs st op dg s = some r) : 4 ≤ r.1 ∧ r.1 ≤ 6 := by
  unfold nxs beh at h
  repeat' split at h
  all_goals first | (cases h; done) | (exfalso; omega) | (cases h; simp only; omega)
theorem nx_le {st op dg s : Nat} (hst : st ≤ 10) (hop : op ≤ 8) {r : Nat × Nat} (h : nxs st op dg s = some r) : r.1 ≤ 10 ∧ r.2 ≤ 8 := by
  unfold nxs beh at h
  repeat' split at h
  all_goals first | (cases h; done) | (exfalso; omega) | (cases h; simp only; omega)
theorem cv_sbT {σ : Sg} {s : Nat} (hs : s ≤ 30) : Ev false 18 [.inl (nI (s))] σ (some (.inl (oC (sbT s)))) σ := by
  refine Ev_wp 43 [] rfl rfl ?_
  refine br_eq rfl rfl (by omega) (by omega) (fun h2 => ?_) (fun h2 => ?_)
  · exact ⟨by unfold sbT; (first | rw [if_pos (by omega)] | rw [if_neg (by omega), if_pos (by omega)] | rw [if_neg (by omega), if_neg (by omega), if_pos (by omega)] | rw [if_neg (by omega), if_neg (by omega), if_neg (by omega)]); rfl, rfl⟩
  · refine br_ne rfl rfl (by omega) (by omega) (fun h5 => ?_) (fun h5 => ?_)
    · refine br_ne rfl rfl (by omega) (by omega) (fun h10 => ?_) (fun h10 => ?_)
      · refine br_ne rfl rfl (by omega) (by omega) (fun h15 => ?_) (fun h15 => ?_)
        · exact ⟨by unfold sbT; (first | rw [if_pos (by omega)] | rw [if_neg (by omega), if_pos (by omega)] | rw [if_neg (by omega), if_neg (by omega), if_pos (by omega)] | rw [if_neg (by omega), if_neg (by omega), if_neg (by omega)]); rfl, rfl⟩
        · exact ⟨by unfold sbT; (first | rw [if_pos (by omega)] | rw [if_neg (by omega), if_pos (by omega)] | rw [if_neg (by omega), if_neg (by omega), if_pos (by omega)] | rw [if_neg (by omega), if_neg (by omega), if_neg (by omega)]); rfl, rfl⟩
      · exact ⟨by unfold sbT; (first | rw [if_pos (by omega)] | rw [if_neg (by omega), if_pos (by omega)] | rw [if_neg (by omega), if_neg (by omega), if_pos (by omega)] | rw [if_neg (by omega), if_neg (by omega), if_neg (by omega)]); rfl, rfl⟩
    · exact ⟨by unfold sbT; (first | rw [if_pos (by omega)] | rw [if_neg (by omega), if_pos (by omega)] | rw [if_neg (by omega), if_neg (by omega), if_pos (by omega)] | rw [if_neg (by omega), if_neg (by omega), if_neg (by omega)]); rfl, rfl⟩
theorem cv_sb_s {σ : Sg} {c s : Nat} (hc : c ≤ 10) (hs : s ≤ 30) : G false 85 (fun r' s' => r' = some (.inl (oC (sbR c s))) ∧ s' = σ) 23 [some (.inl (nI c)), some (.inl (nI s)), some (.inl (bI (s < 10 ∨ (21 ≤ s ∧ s ≤ 27)))), some (.inl (bI (s = 10 ∨ s = 11)))] [] σ := by
  refine G_wp 118 [23] rfl ?_
  refine ⟨fun h24 => ?_, fun h24 => ?_, fun h24 => ?_, fun h24 => ?_, fun h24 => ?_, fun h24 => ?_, fun h24 => ?_, fun h24 => ?_, fun h24 => ?_, fun h24 => ?_, ?_⟩
  · refine br_eq rfl rfl (by omega) (by omega) (fun h27 => ?_) (fun h27 => ?_)
    · have ec : c = 0 := nI_inj h24 (by omega) (by omega)
      subst ec
      refine ⟨?_, rfl⟩
      show _ = some (Sum.inl (oC (sbR 0 s)))
      simp only [sbR, isU]
      first | rfl | (rw [if_pos (by omega)]; rfl) | (rw [if_neg (by omega), if_pos (by omega)]; rfl) | (rw [if_neg (by omega), if_neg (by omega)]; rfl) | (rw [if_neg (by omega)]; rfl)
    · refine br_ne rfl rfl (by omega) (by omega) (fun h30 => ?_) (fun h30 => ?_)
      · refine brb_eq (fun h34 => ?_) (fun h34 => ?_)
        · have ec : c = 0 := nI_inj h24 (by omega) (by omega)
          subst ec
          refine ⟨?_, rfl⟩
          show _ = some (Sum.inl (oC (sbR 0 s)))
          simp only [sbR, isU]
          first | rfl | (rw [if_pos (by omega)]; rfl) | (rw [if_neg (by omega), if_pos (by omega)]; rfl) | (rw [if_neg (by omega), if_neg (by omega)]; rfl) | (rw [if_neg (by omega)]; rfl)
        · have ec : c = 0 := nI_inj h24 (by omega) (by omega)
          subst ec
          refine ⟨?_, rfl⟩
          show _ = some (Sum.inl (oC (sbR 0 s)))
          simp only [sbR, isU]
          first | rfl | (rw [if_pos (by omega)]; rfl) | (rw [if_neg (by omega), if_pos (by omega)]; rfl) | (rw [if_neg (by omega), if_neg (by omega)]; rfl) | (rw [if_neg (by omega)]; rfl)
      · have ec : c = 0 := nI_inj h24 (by omega) (by omega)
        subst ec
        refine ⟨?_, rfl⟩
        show _ = some (Sum.inl (oC (sbR 0 s)))
        simp only [sbR, isU]
        first | rfl | (rw [if_pos (by omega)]; rfl) | (rw [if_neg (by omega), if_pos (by omega)]; rfl) | (rw [if_neg (by omega), if_neg (by omega)]; rfl) | (rw [if_neg (by omega)]; rfl)
  · refine brb_eq (fun h40 => ?_) (fun h40 => ?_)
    · have ec : c = 1 := nI_inj h24 (by omega) (by omega)
      subst ec
      refine ⟨?_, rfl⟩
      show _ = some (Sum.inl (oC (sbR 1 s)))
      simp only [sbR, isU]
      first | rfl | (rw [if_pos (by omega)]; rfl) | (rw [if_neg (by omega), if_pos (by omega)]; rfl) | (rw [if_neg (by omega), if_neg (by omega)]; rfl) | (rw [if_neg (by omega)]; rfl)
    · have ec : c = 1 := nI_inj h24 (by omega) (by omega)
      subst ec
      refine ⟨?_, rfl⟩
      show _ = some (Sum.inl (oC (sbR 1 s)))
      simp only [sbR, isU]
      first | rfl | (rw [if_pos (by omega)]; rfl) | (rw [if_neg (by omega), if_pos (by omega)]; rfl) | (rw [if_neg (by omega), if_neg (by omega)]; rfl) | (rw [if_neg (by omega)]; rfl)
  · refine brb_eq (fun h46 => ?_) (fun h46 => ?_)
    · refine br_lt rfl rfl (by omega) (by omega) (fun h51 => ?_) (fun h51 => ?_)
      · have ec : c = 2 := nI_inj h24 (by omega) (by omega)
        subst ec
        refine ⟨?_, rfl⟩
        show _ = some (Sum.inl (oC (sbR 2 s)))
        simp only [sbR, isU]
        first | rfl | (rw [if_pos (by omega)]; rfl) | (rw [if_neg (by omega), if_pos (by omega)]; rfl) | (rw [if_neg (by omega), if_neg (by omega)]; rfl) | (rw [if_neg (by omega)]; rfl)
      · refine br_gt rfl rfl (by omega) (by omega) (fun h54 => ?_) (fun h54 => ?_)
        · have ec : c = 2 := nI_inj h24 (by omega) (by omega)
          subst ec
          refine ⟨?_, rfl⟩
          show _ = some (Sum.inl (oC (sbR 2 s)))
          simp only [sbR, isU]
          first | rfl | (rw [if_pos (by omega)]; rfl) | (rw [if_neg (by omega), if_pos (by omega)]; rfl) | (rw [if_neg (by omega), if_neg (by omega)]; rfl) | (rw [if_neg (by omega)]; rfl)
        · have ec : c = 2 := nI_inj h24 (by omega) (by omega)
          subst ec
          refine ⟨?_, rfl⟩
          show _ = some (Sum.inl (oC (sbR 2 s)))
          simp only [sbR, isU]
          first | rfl | (rw [if_pos (by omega)]; rfl) | (rw [if_neg (by omega), if_pos (by omega)]; rfl) | (rw [if_neg (by omega), if_neg (by omega)]; rfl) | (rw [if_neg (by omega)]; rfl)
    · have ec : c = 2 := nI_inj h24 (by omega) (by omega)
      subst ec
      refine ⟨?_, rfl⟩
      show _ = some (Sum.inl (oC (sbR 2 s)))
      simp only [sbR, isU]
      first | rfl | (rw [if_pos (by omega)]; rfl) | (rw [if_neg (by omega), if_pos (by omega)]; rfl) | (rw [if_neg (by omega), if_neg (by omega)]; rfl) | (rw [if_neg (by omega)]; rfl)
  · refine brb_eq (fun h60 => ?_) (fun h60 => ?_)
    · have ec : c = 3 := nI_inj h24 (by omega) (by omega)
      subst ec
      refine ⟨?_, rfl⟩
      show _ = some (Sum.inl (oC (sbR 3 s)))
      simp only [sbR, isU]
      first | rfl | (rw [if_pos (by omega)]; rfl) | (rw [if_neg (by omega), if_pos (by omega)]; rfl) | (rw [if_neg (by omega), if_neg (by omega)]; rfl) | (rw [if_neg (by omega)]; rfl)
    · have ec : c = 3 := nI_inj h24 (by omega) (by omega)
      subst ec
      refine ⟨?_, rfl⟩
      show _ = some (Sum.inl (oC (sbR 3 s)))
      simp only [sbR, isU]
      first | rfl | (rw [if_pos (by omega)]; rfl) | (rw [if_neg (by omega), if_pos (by omega)]; rfl) | (rw [if_neg (by omega), if_neg (by omega)]; rfl) | (rw [if_neg (by omega)]; rfl)
  · refine brb_eq (fun h66 => ?_) (fun h66 => ?_)
    · refine ⟨_, _, cv_sbT hs, ?_⟩
      have ec : c = 4 := nI_inj h24 (by omega) (by omega)
      subst ec
      refine ⟨?_, rfl⟩
      show _ = some (Sum.inl (oC (sbR 4 s)))
      simp only [sbR, isU]
      rw [if_neg (by omega)]
    · have ec : c = 4 := nI_inj h24 (by omega) (by omega)
      subst ec
      refine ⟨?_, rfl⟩
      show _ = some (Sum.inl (oC (sbR 4 s)))
      simp only [sbR, isU]
      first | rfl | (rw [if_pos (by omega)]; rfl) | (rw [if_neg (by omega), if_pos (by omega)]; rfl) | (rw [if_neg (by omega), if_neg (by omega)]; rfl) | (rw [if_neg (by omega)]; rfl)
  · refine ⟨_, _, cv_sbT hs, ?_⟩
    have ec : c = 5 := nI_inj h24 (by omega) (by omega)
    subst ec
    refine ⟨?_, rfl⟩
    show _ = some (Sum.inl (oC (sbR 5 s)))
    simp only [sbR, isU]
  · refine br_ne rfl rfl (by omega) (by omega) (fun h77 => ?_) (fun h77 => ?_)
    · refine br_lt rfl rfl (by omega) (by omega) (fun h82 => ?_) (fun h82 => ?_)
      · have ec : c = 6 := nI_inj h24 (by omega) (by omega)
        subst ec
        refine ⟨?_, rfl⟩
        show _ = some (Sum.inl (oC (sbR 6 s)))
        simp only [sbR, isU]
        first | rfl | (rw [if_pos (by omega)]; rfl) | (rw [if_neg (by omega), if_pos (by omega)]; rfl) | (rw [if_neg (by omega), if_neg (by omega)]; rfl) | (rw [if_neg (by omega)]; rfl)
      · have ec : c = 6 := nI_inj h24 (by omega) (by omega)
        subst ec
        refine ⟨?_, rfl⟩
        show _ = some (Sum.inl (oC (sbR 6 s)))
        simp only [sbR, isU]
        first | rfl | (rw [if_pos (by omega)]; rfl) | (rw [if_neg (by omega), if_pos (by omega)]; rfl) | (rw [if_neg (by omega), if_neg (by omega)]; rfl) | (rw [if_neg (by omega)]; rfl)
    · have ec : c = 6 := nI_inj h24 (by omega) (by omega)
      subst ec
      refine ⟨?_, rfl⟩
      show _ = some (Sum.inl (oC (sbR 6 s)))
      simp only [sbR, isU]
      first | rfl | (rw [if_pos (by omega)]; rfl) | (rw [if_neg (by omega), if_pos (by omega)]; rfl) | (rw [if_neg (by omega), if_neg (by omega)]; rfl) | (rw [if_neg (by omega)]; rfl)
  · refine br_ne rfl rfl (by omega) (by omega) (fun h89 => ?_) (fun h89 => ?_)
    · have ec : c = 7 := nI_inj h24 (by omega) (by omega)
      subst ec
      refine ⟨?_, rfl⟩
      show _ = some (Sum.inl (oC (sbR 7 s)))
      simp only [sbR, isU]
      first | rfl | (rw [if_pos (by omega)]; rfl) | (rw [if_neg (by omega), if_pos (by omega)]; rfl) | (rw [if_neg (by omega), if_neg (by omega)]; rfl) | (rw [if_neg (by omega)]; rfl)
    · have ec : c = 7 := nI_inj h24 (by omega) (by omega)
      subst ec
      refine ⟨?_, rfl⟩
      show _ = some (Sum.inl (oC (sbR 7 s)))
      simp only [sbR, isU]
      first | rfl | (rw [if_pos (by omega)]; rfl) | (rw [if_neg (by omega), if_pos (by omega)]; rfl) | (rw [if_neg (by omega), if_neg (by omega)]; rfl) | (rw [if_neg (by omega)]; rfl)
  · refine brb_eq (fun h95 => ?_) (fun h95 => ?_)
    · have ec : c = 8 := nI_inj h24 (by omega) (by omega)
      subst ec
      refine ⟨?_, rfl⟩
      show _ = some (Sum.inl (oC (sbR 8 s)))
      simp only [sbR, isU]
      first | rfl | (rw [if_pos (by omega)]; rfl) | (rw [if_neg (by omega), if_pos (by omega)]; rfl) | (rw [if_neg (by omega), if_neg (by omega)]; rfl) | (rw [if_neg (by omega)]; rfl)
    · have ec : c = 8 := nI_inj h24 (by omega) (by omega)
      subst ec
      refine ⟨?_, rfl⟩
      show _ = some (Sum.inl (oC (sbR 8 s)))
      simp only [sbR, isU]
      first | rfl | (rw [if_pos (by omega)]; rfl) | (rw [if_neg (by omega), if_pos (by omega)]; rfl) | (rw [if_neg (by omega), if_neg (by omega)]; rfl) | (rw [if_neg (by omega)]; rfl)
  · refine brb_eq (fun h101 => ?_) (fun h101 => ?_)
    · have ec : c = 9 := nI_inj h24 (by omega) (by omega)
      subst ec
      refine ⟨?_, rfl⟩
      show _ = some (Sum.inl (oC (sbR 9 s)))
      simp only [sbR, isU]
      first | rfl | (rw [if_pos (by omega)]; rfl) | (rw [if_neg (by omega), if_pos (by omega)]; rfl) | (rw [if_neg (by omega), if_neg (by omega)]; rfl) | (rw [if_neg (by omega)]; rfl)
    · have ec : c = 9 := nI_inj h24 (by omega) (by omega)
      subst ec
      refine ⟨?_, rfl⟩
      show _ = some (Sum.inl (oC (sbR 9 s)))
      simp only [sbR, isU]
      first | rfl | (rw [if_pos (by omega)]; rfl) | (rw [if_neg (by omega), if_pos (by omega)]; rfl) | (rw [if_neg (by omega), if_neg (by omega)]; rfl) | (rw [if_neg (by omega)]; rfl)
  · intro h24
    have e : sbR c s = none := by
      rcases (show c = 0 ∨ c = 1 ∨ c = 2 ∨ c = 3 ∨ c = 4 ∨ c = 5 ∨ c = 6 ∨ c = 7 ∨ c = 8 ∨ c = 9 ∨ c = 10 by omega) with rfl | rfl | rfl | rfl | rfl | rfl | rfl | rfl | rfl | rfl | rfl
      all_goals first | rfl | exact absurd rfl h24.1 | exact absurd rfl h24.2.1 | exact absurd rfl h24.2.2.1 | exact absurd rfl h24.2.2.2.1 | exact absurd rfl h24.2.2.2.2.1 | exact absurd rfl h24.2.2.2.2.2.1 | exact absurd rfl h24.2.2.2.2.2.2.1 | exact absurd rfl h24.2.2.2.2.2.2.2.1 | exact absurd rfl h24.2.2.2.2.2.2.2.2.1 | exact absurd rfl h24.2.2.2.2.2.2.2.2.2.1
    rw [e]
    exact ⟨rfl, rfl⟩
theorem cv_sb {σ : Sg} {c s : Nat} (hc : c ≤ 10) (hs : s ≤ 30) : Ev false 85 [.inl (nI c), .inl (nI s)] σ (some (.inl (oC (sbR c s)))) σ := by
  refine Ev_wp 95 [23] rfl rfl ?_
  refine br_le rfl rfl (by omega) (by omega) (fun h2 => ?_) (fun h2 => ?_)
  · refine ⟨bI (s < 10 ∨ (21 ≤ s ∧ s ≤ 27)), (bI_t (by omega)).symm, ?_⟩
    refine br_eq rfl rfl (by omega) (by omega) (fun h15 => ?_) (fun h15 => ?_)
    · refine ⟨bI (s = 10 ∨ s = 11), (bI_t (by omega)).symm, ?_⟩
      exact cv_sb_s hc hs
    · refine br_ne rfl rfl (by omega) (by omega) (fun h18 => ?_) (fun h18 => ?_)
      · refine ⟨bI (s = 10 ∨ s = 11), (bI_f (by omega)).symm, ?_⟩
        exact cv_sb_s hc hs
      · refine ⟨bI (s = 10 ∨ s = 11), (bI_t (by omega)).symm, ?_⟩
        exact cv_sb_s hc hs
  · refine br_lt rfl rfl (by omega) (by omega) (fun h5 => ?_) (fun h5 => ?_)
    · refine ⟨bI (s < 10 ∨ (21 ≤ s ∧ s ≤ 27)), (bI_f (by omega)).symm, ?_⟩
      refine br_eq rfl rfl (by omega) (by omega) (fun h15 => ?_) (fun h15 => ?_)
      · refine ⟨bI (s = 10 ∨ s = 11), (bI_t (by omega)).symm, ?_⟩
        exact cv_sb_s hc hs
      · refine br_ne rfl rfl (by omega) (by omega) (fun h18 => ?_) (fun h18 => ?_)
        · refine ⟨bI (s = 10 ∨ s = 11), (bI_f (by omega)).symm, ?_⟩
          exact cv_sb_s hc hs
        · refine ⟨bI (s = 10 ∨ s = 11), (bI_t (by omega)).symm, ?_⟩
          exact cv_sb_s hc hs
    · refine br_gt rfl rfl (by omega) (by omega) (fun h8 => ?_) (fun h8 => ?_)
      · refine ⟨bI (s < 10 ∨ (21 ≤ s ∧ s ≤ 27)), (bI_f (by omega)).symm, ?_⟩
        refine br_eq rfl rfl (by omega) (by omega) (fun h15 => ?_) (fun h15 => ?_)
        · refine ⟨bI (s = 10 ∨ s = 11), (bI_t (by omega)).symm, ?_⟩
          exact cv_sb_s hc hs
        · refine br_ne rfl rfl (by omega) (by omega) (fun h18 => ?_) (fun h18 => ?_)
          · refine ⟨bI (s = 10 ∨ s = 11), (bI_f (by omega)).symm, ?_⟩
            exact cv_sb_s hc hs
          · refine ⟨bI (s = 10 ∨ s = 11), (bI_t (by omega)).symm, ?_⟩
            exact cv_sb_s hc hs
      · refine ⟨bI (s < 10 ∨ (21 ≤ s ∧ s ≤ 27)), (bI_t (by omega)).symm, ?_⟩
        refine br_eq rfl rfl (by omega) (by omega) (fun h15 => ?_) (fun h15 => ?_)
        · refine ⟨bI (s = 10 ∨ s = 11), (bI_t (by omega)).symm, ?_⟩
          exact cv_sb_s hc hs
        · refine br_ne rfl rfl (by omega) (by omega) (fun h18 => ?_) (fun h18 => ?_)
          · refine ⟨bI (s = 10 ∨ s = 11), (bI_f (by omega)).symm, ?_⟩
            exact cv_sb_s hc hs
          · refine ⟨bI (s = 10 ∨ s = 11), (bI_t (by omega)).symm, ?_⟩
            exact cv_sb_s hc hs
theorem flR_n {f : Nat → Nat} {n m i : Nat} {q : Nat × Nat × Nat} (h : nx q (f i) = none) : flR f n (m + 1) i q = nI i := by rw [flR_S, h]
theorem flR_s {f : Nat → Nat} {n m i : Nat} {q q' : Nat × Nat × Nat} (h : nx q (f i) = some q') : flR f n (m + 1) i q = flR f n m (i + 1) q' := by rw [flR_S, h]
theorem nI_decp {m : Nat} (h : 0 < m) : nI m + -1 = nI (m - 1) := by
  obtain ⟨k, rfl⟩ : ∃ k, m = k + 1 := ⟨m - 1, by omega⟩
  exact nI_dec k
theorem cv_fp_l {d : Bool} {s0 t : Sg} {D : Dy} {eb er : Nat} {Z : Zt} {σ : Sg} (hC : Cg d s0 t D eb er Z σ) (hX2 : TX t) : ∀ (n j st op dg : Nat) (o5 : Option AV), j + n = nSaid t → st ≤ 10 → op ≤ 8 → dg ≤ 3 → (0 < dg → 4 ≤ st ∧ st ≤ 6) → G false 138 (fun r' s' => r' = some (.inl (flR (tx t) (nSaid t) n j (st, op, dg))) ∧ s' = σ) 8 [some (.inr (.inr (12, false, 0))), some (.inl (nI (cm st))), some (.inl (nI (op))), some (.inl (nI (dg))), some (.inl (nI (j))), o5] [] σ := by
  intro n
  have hN : nSaid t ≤ 40 := hX2.1.2
  induction n with
  | zero =>
    intro j st op dg o5 hj hst hop hdg hd
    have hst2 := cmx_le hst
    refine G_wp 200 [8] rfl ?_
    refine br_ge rfl (hC.c12_1.trans hX2.eSa) (by omega) (by omega) (fun h11 => ?_) (fun h11 => ?_)
    · refine br_eq rfl rfl (by omega) (by omega) (fun h76 => ?_) (fun h76 => ?_)
      · refine ⟨?_, rfl⟩
        show _ = some (Sum.inl (if st = 6 ∨ st = 10 then (-1) else nI (nSaid t)))
        rw [if_pos ((cm_end hst).mpr (by omega))]
      · refine br_ne rfl rfl (by omega) (by omega) (fun h79 => ?_) (fun h79 => ?_)
        · refine ⟨?_, rfl⟩
          show _ = some (Sum.inl (if st = 6 ∨ st = 10 then (-1) else nI (nSaid t)))
          rw [if_neg (fun q => absurd ((cm_end hst).mp q) (by omega))]
          exact congrArg (fun z => some (Sum.inl z)) (hC.c12_1.trans hX2.eSa)
        · refine ⟨?_, rfl⟩
          show _ = some (Sum.inl (if st = 6 ∨ st = 10 then (-1) else nI (nSaid t)))
          rw [if_pos ((cm_end hst).mpr (by omega))]
    · exact absurd h11 (by omega)
  | succ n ih =>
    intro j st op dg o5 hj hst hop hdg hd
    have hst2 := cmx_le hst
    obtain ⟨s, e0, hs, hs0⟩ : ∃ s, tx t j = s ∧ s ≤ 30 ∧ t 83 false 0 j = nI s := ⟨tx t j, rfl, by unfold tx; rw [if_pos (by omega)]; exact (hX2.2 j (by omega)).2, by unfold tx; rw [if_pos (by omega)]; exact (hX2.2 j (by omega)).1⟩
    cases hb : sbR (cm st) s with
    | none =>
      refine G_wp 300 [8] rfl ?_
      refine br_ge rfl (hC.c12_1.trans hX2.eSa) (by omega) (by omega) (fun h11 => ?_) (fun h11 => ?_)
      · exact absurd h11 (by omega)
      · refine ⟨j, rfl, (by show _ < 40; omega), ?_⟩
        rw [hC.c13 j (by omega)]
        refine ⟨nI (s), hs0, ?_⟩
        refine br_gt rfl rfl (by omega) (by omega) (fun h19 => ?_) (fun h19 => ?_)
        · refine ⟨_, rfl, ?_⟩
          refine br_le rfl rfl (by omega) (by omega) (fun h28 => ?_) (fun h28 => ?_)
          · refine br_le rfl rfl (by omega) (by omega) (fun h33 => ?_) (fun h33 => ?_)
            · refine br_ne rfl rfl (by omega) (by omega) (fun h37 => ?_) (fun h37 => ?_)
              · refine br_ne rfl rfl (by omega) (by omega) (fun h45 => ?_) (fun h45 => ?_)
                · refine br_ne rfl rfl (by omega) (by omega) (fun h50 => ?_) (fun h50 => ?_)
                  · have hv := cv_sb (σ := σ) (c := cm st) (s := s) (cmx_le hst) hs
                    rw [hb] at hv
                    refine ⟨_, _, hv, _, rfl, ?_⟩
                    refine ⟨fun h61 => ?_, fun h61 => ?_⟩
                    · exact absurd rfl h61
                    · refine ⟨?_, rfl⟩
                      rw [flR_n (q := (st, op, dg)) ?_]
                      rw [e0, nx_eq]
                      rw [show nxs st op dg s = none from ?_]
                      · rfl
                      have q := nx_sb (st := st) (op := op) (dg := dg) (s := s) hst (by omega) (by omega) (by omega) (by omega) hop hs
                      rw [hb] at q
                      cases hn : nxs st op dg s with
                      | none => rfl
                      | some r => rw [hn] at q; cases q
                  · refine br_le rfl rfl (by omega) (by omega) (fun h52 => ?_) (fun h52 => ?_)
                    · have hv := cv_sb (σ := σ) (c := cm st) (s := s) (cmx_le hst) hs
                      rw [hb] at hv
                      refine ⟨_, _, hv, _, rfl, ?_⟩
                      refine ⟨fun h61 => ?_, fun h61 => ?_⟩
                      · exact absurd rfl h61
                      · refine ⟨?_, rfl⟩
                        rw [flR_n (q := (st, op, dg)) ?_]
                        rw [e0, nx_eq]
                        rw [show nxs st op dg s = none from ?_]
                        · rfl
                        have q := nx_sb (st := st) (op := op) (dg := dg) (s := s) hst (by omega) (by omega) (by omega) (by omega) hop hs
                        rw [hb] at q
                        cases hn : nxs st op dg s with
                        | none => rfl
                        | some r => rw [hn] at q; cases q
                    · refine ⟨?_, rfl⟩
                      rw [flR_n (q := (st, op, dg)) ?_]
                      rw [e0, nx_eq]
                      rw [nx_bad (by omega)]
                      rfl
                · refine br_eq rfl rfl (by omega) (by omega) (fun h47 => ?_) (fun h47 => ?_)
                  · refine ⟨?_, rfl⟩
                    rw [flR_n (q := (st, op, dg)) ?_]
                    rw [e0, nx_eq]
                    rw [nx_bad (by omega)]
                    rfl
                  · refine br_ne rfl rfl (by omega) (by omega) (fun h50 => ?_) (fun h50 => ?_)
                    · have hv := cv_sb (σ := σ) (c := cm st) (s := s) (cmx_le hst) hs
                      rw [hb] at hv
                      refine ⟨_, _, hv, _, rfl, ?_⟩
                      refine ⟨fun h61 => ?_, fun h61 => ?_⟩
                      · exact absurd rfl h61
                      · refine ⟨?_, rfl⟩
                        rw [flR_n (q := (st, op, dg)) ?_]
                        rw [e0, nx_eq]
                        rw [show nxs st op dg s = none from ?_]
                        · rfl
                        have q := nx_sb (st := st) (op := op) (dg := dg) (s := s) hst (by omega) (by omega) (by omega) (by omega) hop hs
                        rw [hb] at q
                        cases hn : nxs st op dg s with
                        | none => rfl
                        | some r => rw [hn] at q; cases q
                    · refine br_le rfl rfl (by omega) (by omega) (fun h52 => ?_) (fun h52 => ?_)
                      · have hv := cv_sb (σ := σ) (c := cm st) (s := s) (cmx_le hst) hs
                        rw [hb] at hv
                        refine ⟨_, _, hv, _, rfl, ?_⟩
                        refine ⟨fun h61 => ?_, fun h61 => ?_⟩
                        · exact absurd rfl h61
                        · refine ⟨?_, rfl⟩
                          rw [flR_n (q := (st, op, dg)) ?_]
                          rw [e0, nx_eq]
                          rw [show nxs st op dg s = none from ?_]
                          · rfl
                          have q := nx_sb (st := st) (op := op) (dg := dg) (s := s) hst (by omega) (by omega) (by omega) (by omega) hop hs
                          rw [hb] at q
                          cases hn : nxs st op dg s with
                          | none => rfl
                          | some r => rw [hn] at q; cases q
                      · refine ⟨?_, rfl⟩
                        rw [flR_n (q := (st, op, dg)) ?_]
                        rw [e0, nx_eq]
                        rw [nx_bad (by omega)]
                        rfl
              · refine br_ne rfl rfl (by omega) (by omega) (fun h40 => ?_) (fun h40 => ?_)
                · refine br_ne rfl rfl (by omega) (by omega) (fun h45 => ?_) (fun h45 => ?_)
                  · refine br_ne rfl rfl (by omega) (by omega) (fun h50 => ?_) (fun h50 => ?_)
                    · have hv := cv_sb (σ := σ) (c := cm st) (s := s) (cmx_le hst) hs
                      rw [hb] at hv
                      refine ⟨_, _, hv, _, rfl, ?_⟩
                      refine ⟨fun h61 => ?_, fun h61 => ?_⟩
                      · exact absurd rfl h61
                      · refine ⟨?_, rfl⟩
                        rw [flR_n (q := (st, op, dg)) ?_]
                        rw [e0, nx_eq]
                        rw [show nxs st op dg s = none from ?_]
                        · rfl
                        have q := nx_sb (st := st) (op := op) (dg := dg) (s := s) hst (by omega) (by omega) (by omega) (by omega) hop hs
                        rw [hb] at q
                        cases hn : nxs st op dg s with
                        | none => rfl
                        | some r => rw [hn] at q; cases q
                    · refine br_le rfl rfl (by omega) (by omega) (fun h52 => ?_) (fun h52 => ?_)
                      · have hv := cv_sb (σ := σ) (c := cm st) (s := s) (cmx_le hst) hs
                        rw [hb] at hv
                        refine ⟨_, _, hv, _, rfl, ?_⟩
                        refine ⟨fun h61 => ?_, fun h61 => ?_⟩
                        · exact absurd rfl h61
                        · refine ⟨?_, rfl⟩
                          rw [flR_n (q := (st, op, dg)) ?_]
                          rw [e0, nx_eq]
                          rw [show nxs st op dg s = none from ?_]
                          · rfl
                          have q := nx_sb (st := st) (op := op) (dg := dg) (s := s) hst (by omega) (by omega) (by omega) (by omega) hop hs
                          rw [hb] at q
                          cases hn : nxs st op dg s with
                          | none => rfl
                          | some r => rw [hn] at q; cases q
                      · refine ⟨?_, rfl⟩
                        rw [flR_n (q := (st, op, dg)) ?_]
                        rw [e0, nx_eq]
                        rw [nx_bad (by omega)]
                        rfl
                  · refine br_eq rfl rfl (by omega) (by omega) (fun h47 => ?_) (fun h47 => ?_)
                    · refine ⟨?_, rfl⟩
                      rw [flR_n (q := (st, op, dg)) ?_]
                      rw [e0, nx_eq]
                      rw [nx_bad (by omega)]
                      rfl
                    · refine br_ne rfl rfl (by omega) (by omega) (fun h50 => ?_) (fun h50 => ?_)
                      · have hv := cv_sb (σ := σ) (c := cm st) (s := s) (cmx_le hst) hs
                        rw [hb] at hv
                        refine ⟨_, _, hv, _, rfl, ?_⟩
                        refine ⟨fun h61 => ?_, fun h61 => ?_⟩
                        · exact absurd rfl h61
                        · refine ⟨?_, rfl⟩
                          rw [flR_n (q := (st, op, dg)) ?_]
                          rw [e0, nx_eq]
                          rw [show nxs st op dg s = none from ?_]
                          · rfl
                          have q := nx_sb (st := st) (op := op) (dg := dg) (s := s) hst (by omega) (by omega) (by omega) (by omega) hop hs
                          rw [hb] at q
                          cases hn : nxs st op dg s with
                          | none => rfl
                          | some r => rw [hn] at q; cases q
                      · refine br_le rfl rfl (by omega) (by omega) (fun h52 => ?_) (fun h52 => ?_)
                        · have hv := cv_sb (σ := σ) (c := cm st) (s := s) (cmx_le hst) hs
                          rw [hb] at hv
                          refine ⟨_, _, hv, _, rfl, ?_⟩
                          refine ⟨fun h61 => ?_, fun h61 => ?_⟩
                          · exact absurd rfl h61
                          · refine ⟨?_, rfl⟩
                            rw [flR_n (q := (st, op, dg)) ?_]
                            rw [e0, nx_eq]
                            rw [show nxs st op dg s = none from ?_]
                            · rfl
                            have q := nx_sb (st := st) (op := op) (dg := dg) (s := s) hst (by omega) (by omega) (by omega) (by omega) hop hs
                            rw [hb] at q
                            cases hn : nxs st op dg s with
                            | none => rfl
                            | some r => rw [hn] at q; cases q
                        · refine ⟨?_, rfl⟩
                          rw [flR_n (q := (st, op, dg)) ?_]
                          rw [e0, nx_eq]
                          rw [nx_bad (by omega)]
                          rfl
                · refine ⟨?_, rfl⟩
                  rw [flR_n (q := (st, op, dg)) ?_]
                  rw [e0, nx_eq]
                  rw [nx_bad (by omega)]
                  rfl
            · exact absurd h33 (by omega)
          · exact absurd h28 (by omega)
        · refine ⟨nI (dg + 1), (add_n rfl rfl), ?_⟩
          refine br_le rfl rfl (by omega) (by omega) (fun h28 => ?_) (fun h28 => ?_)
          · refine br_le rfl rfl (by omega) (by omega) (fun h33 => ?_) (fun h33 => ?_)
            · refine br_ne rfl rfl (by omega) (by omega) (fun h37 => ?_) (fun h37 => ?_)
              · refine br_ne rfl rfl (by omega) (by omega) (fun h45 => ?_) (fun h45 => ?_)
                · refine br_ne rfl rfl (by omega) (by omega) (fun h50 => ?_) (fun h50 => ?_)
                  · have hv := cv_sb (σ := σ) (c := cm st) (s := s) (cmx_le hst) hs
                    rw [hb] at hv
                    refine ⟨_, _, hv, _, rfl, ?_⟩
                    refine ⟨fun h61 => ?_, fun h61 => ?_⟩
                    · exact absurd rfl h61
                    · refine ⟨?_, rfl⟩
                      rw [flR_n (q := (st, op, dg)) ?_]
                      rw [e0, nx_eq]
                      rw [show nxs st op dg s = none from ?_]
                      · rfl
                      have q := nx_sb (st := st) (op := op) (dg := dg) (s := s) hst (by omega) (by omega) (by omega) (by omega) hop hs
                      rw [hb] at q
                      cases hn : nxs st op dg s with
                      | none => rfl
                      | some r => rw [hn] at q; cases q
                  · refine br_le rfl rfl (by omega) (by omega) (fun h52 => ?_) (fun h52 => ?_)
                    · have hv := cv_sb (σ := σ) (c := cm st) (s := s) (cmx_le hst) hs
                      rw [hb] at hv
                      refine ⟨_, _, hv, _, rfl, ?_⟩
                      refine ⟨fun h61 => ?_, fun h61 => ?_⟩
                      · exact absurd rfl h61
                      · refine ⟨?_, rfl⟩
                        rw [flR_n (q := (st, op, dg)) ?_]
                        rw [e0, nx_eq]
                        rw [show nxs st op dg s = none from ?_]
                        · rfl
                        have q := nx_sb (st := st) (op := op) (dg := dg) (s := s) hst (by omega) (by omega) (by omega) (by omega) hop hs
                        rw [hb] at q
                        cases hn : nxs st op dg s with
                        | none => rfl
                        | some r => rw [hn] at q; cases q
                    · refine ⟨?_, rfl⟩
                      rw [flR_n (q := (st, op, dg)) ?_]
                      rw [e0, nx_eq]
                      rw [nx_bad (by omega)]
                      rfl
                · refine br_eq rfl rfl (by omega) (by omega) (fun h47 => ?_) (fun h47 => ?_)
                  · refine ⟨?_, rfl⟩
                    rw [flR_n (q := (st, op, dg)) ?_]
                    rw [e0, nx_eq]
                    rw [nx_bad (by omega)]
                    rfl
                  · refine br_ne rfl rfl (by omega) (by omega) (fun h50 => ?_) (fun h50 => ?_)
                    · have hv := cv_sb (σ := σ) (c := cm st) (s := s) (cmx_le hst) hs
                      rw [hb] at hv
                      refine ⟨_, _, hv, _, rfl, ?_⟩
                      refine ⟨fun h61 => ?_, fun h61 => ?_⟩
                      · exact absurd rfl h61
                      · refine ⟨?_, rfl⟩
                        rw [flR_n (q := (st, op, dg)) ?_]
                        rw [e0, nx_eq]
                        rw [show nxs st op dg s = none from ?_]
                        · rfl
                        have q := nx_sb (st := st) (op := op) (dg := dg) (s := s) hst (by omega) (by omega) (by omega) (by omega) hop hs
                        rw [hb] at q
                        cases hn : nxs st op dg s with
                        | none => rfl
                        | some r => rw [hn] at q; cases q
                    · refine br_le rfl rfl (by omega) (by omega) (fun h52 => ?_) (fun h52 => ?_)
                      · have hv := cv_sb (σ := σ) (c := cm st) (s := s) (cmx_le hst) hs
                        rw [hb] at hv
                        refine ⟨_, _, hv, _, rfl, ?_⟩
                        refine ⟨fun h61 => ?_, fun h61 => ?_⟩
                        · exact absurd rfl h61
                        · refine ⟨?_, rfl⟩
                          rw [flR_n (q := (st, op, dg)) ?_]
                          rw [e0, nx_eq]
                          rw [show nxs st op dg s = none from ?_]
                          · rfl
                          have q := nx_sb (st := st) (op := op) (dg := dg) (s := s) hst (by omega) (by omega) (by omega) (by omega) hop hs
                          rw [hb] at q
                          cases hn : nxs st op dg s with
                          | none => rfl
                          | some r => rw [hn] at q; cases q
                      · refine ⟨?_, rfl⟩
                        rw [flR_n (q := (st, op, dg)) ?_]
                        rw [e0, nx_eq]
                        rw [nx_bad (by omega)]
                        rfl
              · refine br_ne rfl rfl (by omega) (by omega) (fun h40 => ?_) (fun h40 => ?_)
                · refine br_ne rfl rfl (by omega) (by omega) (fun h45 => ?_) (fun h45 => ?_)
                  · refine br_ne rfl rfl (by omega) (by omega) (fun h50 => ?_) (fun h50 => ?_)
                    · have hv := cv_sb (σ := σ) (c := cm st) (s := s) (cmx_le hst) hs
                      rw [hb] at hv
                      refine ⟨_, _, hv, _, rfl, ?_⟩
                      refine ⟨fun h61 => ?_, fun h61 => ?_⟩
                      · exact absurd rfl h61
                      · refine ⟨?_, rfl⟩
                        rw [flR_n (q := (st, op, dg)) ?_]
                        rw [e0, nx_eq]
                        rw [show nxs st op dg s = none from ?_]
                        · rfl
                        have q := nx_sb (st := st) (op := op) (dg := dg) (s := s) hst (by omega) (by omega) (by omega) (by omega) hop hs
                        rw [hb] at q
                        cases hn : nxs st op dg s with
                        | none => rfl
                        | some r => rw [hn] at q; cases q
                    · refine br_le rfl rfl (by omega) (by omega) (fun h52 => ?_) (fun h52 => ?_)
                      · have hv := cv_sb (σ := σ) (c := cm st) (s := s) (cmx_le hst) hs
                        rw [hb] at hv
                        refine ⟨_, _, hv, _, rfl, ?_⟩
                        refine ⟨fun h61 => ?_, fun h61 => ?_⟩
                        · exact absurd rfl h61
                        · refine ⟨?_, rfl⟩
                          rw [flR_n (q := (st, op, dg)) ?_]
                          rw [e0, nx_eq]
                          rw [show nxs st op dg s = none from ?_]
                          · rfl
                          have q := nx_sb (st := st) (op := op) (dg := dg) (s := s) hst (by omega) (by omega) (by omega) (by omega) hop hs
                          rw [hb] at q
                          cases hn : nxs st op dg s with
                          | none => rfl
                          | some r => rw [hn] at q; cases q
                      · refine ⟨?_, rfl⟩
                        rw [flR_n (q := (st, op, dg)) ?_]
                        rw [e0, nx_eq]
                        rw [nx_bad (by omega)]
                        rfl
                  · refine br_eq rfl rfl (by omega) (by omega) (fun h47 => ?_) (fun h47 => ?_)
                    · refine ⟨?_, rfl⟩
                      rw [flR_n (q := (st, op, dg)) ?_]
                      rw [e0, nx_eq]
                      rw [nx_bad (by omega)]
                      rfl
                    · refine br_ne rfl rfl (by omega) (by omega) (fun h50 => ?_) (fun h50 => ?_)
                      · have hv := cv_sb (σ := σ) (c := cm st) (s := s) (cmx_le hst) hs
                        rw [hb] at hv
                        refine ⟨_, _, hv, _, rfl, ?_⟩
                        refine ⟨fun h61 => ?_, fun h61 => ?_⟩
                        · exact absurd rfl h61
                        · refine ⟨?_, rfl⟩
                          rw [flR_n (q := (st, op, dg)) ?_]
                          rw [e0, nx_eq]
                          rw [show nxs st op dg s = none from ?_]
                          · rfl
                          have q := nx_sb (st := st) (op := op) (dg := dg) (s := s) hst (by omega) (by omega) (by omega) (by omega) hop hs
                          rw [hb] at q
                          cases hn : nxs st op dg s with
                          | none => rfl
                          | some r => rw [hn] at q; cases q
                      · refine br_le rfl rfl (by omega) (by omega) (fun h52 => ?_) (fun h52 => ?_)
                        · have hv := cv_sb (σ := σ) (c := cm st) (s := s) (cmx_le hst) hs
                          rw [hb] at hv
                          refine ⟨_, _, hv, _, rfl, ?_⟩
                          refine ⟨fun h61 => ?_, fun h61 => ?_⟩
                          · exact absurd rfl h61
                          · refine ⟨?_, rfl⟩
                            rw [flR_n (q := (st, op, dg)) ?_]
                            rw [e0, nx_eq]
                            rw [show nxs st op dg s = none from ?_]
                            · rfl
                            have q := nx_sb (st := st) (op := op) (dg := dg) (s := s) hst (by omega) (by omega) (by omega) (by omega) hop hs
                            rw [hb] at q
                            cases hn : nxs st op dg s with
                            | none => rfl
                            | some r => rw [hn] at q; cases q
                        · refine ⟨?_, rfl⟩
                          rw [flR_n (q := (st, op, dg)) ?_]
                          rw [e0, nx_eq]
                          rw [nx_bad (by omega)]
                          rfl
                · refine ⟨?_, rfl⟩
                  rw [flR_n (q := (st, op, dg)) ?_]
                  rw [e0, nx_eq]
                  rw [nx_bad (by omega)]
                  rfl
            · refine ⟨nI (j + 1), nI_add _ _, ?_⟩
              rw [show flR (tx t) (nSaid t) (n + 1) j (st, op, dg) = flR (tx t) (nSaid t) n (j + 1) (st, op, dg + 1) from flR_s (by rw [e0, nx_eq, nx_dg (hd (by omega)).1 (hd (by omega)).2 (by omega) (by omega), if_pos (show dg < 3 by omega), Option.map_some, if_pos (show s < 10 by omega)])]
              exact ih (j + 1) st op (dg + 1) _ (by omega) hst hop (by omega) (fun _ => hd (by omega))
          · refine ⟨?_, rfl⟩
            rw [flR_n (q := (st, op, dg)) ?_]
            rw [e0, nx_eq]
            rw [nx_dg (hd (by omega)).1 (hd (by omega)).2 (by omega) (by omega), if_neg (show ¬ dg < 3 by omega)]
            rfl
    | some c =>
      have hc := sbR_le hb
      refine G_wp 300 [8] rfl ?_
      refine br_ge rfl (hC.c12_1.trans hX2.eSa) (by omega) (by omega) (fun h11 => ?_) (fun h11 => ?_)
      · exact absurd h11 (by omega)
      · refine ⟨j, rfl, (by show _ < 40; omega), ?_⟩
        rw [hC.c13 j (by omega)]
        refine ⟨nI (s), hs0, ?_⟩
        refine br_gt rfl rfl (by omega) (by omega) (fun h19 => ?_) (fun h19 => ?_)
        · refine ⟨_, rfl, ?_⟩
          refine br_le rfl rfl (by omega) (by omega) (fun h28 => ?_) (fun h28 => ?_)
          · refine br_le rfl rfl (by omega) (by omega) (fun h33 => ?_) (fun h33 => ?_)
            · refine br_ne rfl rfl (by omega) (by omega) (fun h37 => ?_) (fun h37 => ?_)
              · refine br_ne rfl rfl (by omega) (by omega) (fun h45 => ?_) (fun h45 => ?_)
                · refine br_ne rfl rfl (by omega) (by omega) (fun h50 => ?_) (fun h50 => ?_)
                  · have hv := cv_sb (σ := σ) (c := cm st) (s := s) (cmx_le hst) hs
                    rw [hb] at hv
                    refine ⟨_, _, hv, _, rfl, ?_⟩
                    refine ⟨fun h61 => ?_, fun h61 => ?_⟩
                    · refine br_ne rfl rfl (by omega) (by omega) (fun h66 => ?_) (fun h66 => ?_)
                      · refine br_ne rfl rfl (by omega) (by omega) (fun h70 => ?_) (fun h70 => ?_)
                        · refine ⟨nI (j + 1), nI_add _ _, ?_⟩
                          have q := nx_sb (st := st) (op := op) (dg := dg) (s := s) hst (by omega) (by omega) (by omega) (by omega) hop hs
                          rw [hb] at q
                          cases hn : nxs st op dg s with
                          | none => rw [hn] at q; cases q
                          | some r =>
                            rw [hn] at q
                            obtain ⟨q1, q2⟩ : cm r.1 = c ∧ r.2 = (if s = 15 then op + 1 else if s = 16 then op - 1 else op) := by
                              have q3 := Option.some.inj q
                              exact ⟨congrArg (fun z => z.1) q3, congrArg (fun z => z.2) q3⟩
                            have q4 : r.2 = op := by rw [q2, if_neg (show ¬ s = 15 by omega), if_neg (show ¬ s = 16 by omega)]
                            have q5 := nx_le hst hop hn
                            rw [show flR (tx t) (nSaid t) (n + 1) j (st, op, dg) = flR (tx t) (nSaid t) n (j + 1) (r.1, r.2, 0) from flR_s (by rw [e0, nx_eq, hn, Option.map_some, if_neg (by omega)])]
                            rw [← q1, ← q4]
                            exact ih (j + 1) r.1 r.2 (0) _ (by omega) q5.1 q5.2 (by omega) (fun z => absurd z (by omega))
                        · refine ⟨nI (op - 1), (nI_decp (by omega)), nI (j + 1), nI_add _ _, ?_⟩
                          have q := nx_sb (st := st) (op := op) (dg := dg) (s := s) hst (by omega) (by omega) (by omega) (by omega) hop hs
                          rw [hb] at q
                          cases hn : nxs st op dg s with
                          | none => rw [hn] at q; cases q
                          | some r =>
                            rw [hn] at q
                            obtain ⟨q1, q2⟩ : cm r.1 = c ∧ r.2 = (if s = 15 then op + 1 else if s = 16 then op - 1 else op) := by
                              have q3 := Option.some.inj q
                              exact ⟨congrArg (fun z => z.1) q3, congrArg (fun z => z.2) q3⟩
                            have q4 : r.2 = op - 1 := by rw [q2, if_neg (show ¬ s = 15 by omega), if_pos (show s = 16 by omega)]
                            have q5 := nx_le hst hop hn
                            rw [show flR (tx t) (nSaid t) (n + 1) j (st, op, dg) = flR (tx t) (nSaid t) n (j + 1) (r.1, r.2, 0) from flR_s (by rw [e0, nx_eq, hn, Option.map_some, if_neg (by omega)])]
                            rw [← q1, ← q4]
                            exact ih (j + 1) r.1 r.2 (0) _ (by omega) q5.1 q5.2 (by omega) (fun z => absurd z (by omega))
                      · refine ⟨nI (op + 1), nI_add _ _, ?_⟩
                        refine br_ne rfl rfl (by omega) (by omega) (fun h70 => ?_) (fun h70 => ?_)
                        · refine ⟨nI (j + 1), nI_add _ _, ?_⟩
                          have q := nx_sb (st := st) (op := op) (dg := dg) (s := s) hst (by omega) (by omega) (by omega) (by omega) hop hs
                          rw [hb] at q
                          cases hn : nxs st op dg s with
                          | none => rw [hn] at q; cases q
                          | some r =>
                            rw [hn] at q
                            obtain ⟨q1, q2⟩ : cm r.1 = c ∧ r.2 = (if s = 15 then op + 1 else if s = 16 then op - 1 else op) := by
                              have q3 := Option.some.inj q
                              exact ⟨congrArg (fun z => z.1) q3, congrArg (fun z => z.2) q3⟩
                            have q4 : r.2 = op + 1 := by rw [q2, if_pos (show s = 15 by omega)]
                            have q5 := nx_le hst hop hn
                            rw [show flR (tx t) (nSaid t) (n + 1) j (st, op, dg) = flR (tx t) (nSaid t) n (j + 1) (r.1, r.2, 0) from flR_s (by rw [e0, nx_eq, hn, Option.map_some, if_neg (by omega)])]
                            rw [← q1, ← q4]
                            exact ih (j + 1) r.1 r.2 (0) _ (by omega) q5.1 q5.2 (by omega) (fun z => absurd z (by omega))
                        · exact absurd h70 (by omega)
                    · exact absurd h61 (nI_m1 (by omega))
                  · refine br_le rfl rfl (by omega) (by omega) (fun h52 => ?_) (fun h52 => ?_)
                    · have hv := cv_sb (σ := σ) (c := cm st) (s := s) (cmx_le hst) hs
                      rw [hb] at hv
                      refine ⟨_, _, hv, _, rfl, ?_⟩
                      refine ⟨fun h61 => ?_, fun h61 => ?_⟩
                      · refine br_ne rfl rfl (by omega) (by omega) (fun h66 => ?_) (fun h66 => ?_)
                        · refine br_ne rfl rfl (by omega) (by omega) (fun h70 => ?_) (fun h70 => ?_)
                          · refine ⟨nI (j + 1), nI_add _ _, ?_⟩
                            have q := nx_sb (st := st) (op := op) (dg := dg) (s := s) hst (by omega) (by omega) (by omega) (by omega) hop hs
                            rw [hb] at q
                            cases hn : nxs st op dg s with
                            | none => rw [hn] at q; cases q
                            | some r =>
                              rw [hn] at q
                              obtain ⟨q1, q2⟩ : cm r.1 = c ∧ r.2 = (if s = 15 then op + 1 else if s = 16 then op - 1 else op) := by
                                have q3 := Option.some.inj q
                                exact ⟨congrArg (fun z => z.1) q3, congrArg (fun z => z.2) q3⟩
                              have q4 : r.2 = op := by rw [q2, if_neg (show ¬ s = 15 by omega), if_neg (show ¬ s = 16 by omega)]
                              have q5 := nx_le hst hop hn
                              rw [show flR (tx t) (nSaid t) (n + 1) j (st, op, dg) = flR (tx t) (nSaid t) n (j + 1) (r.1, r.2, 0) from flR_s (by rw [e0, nx_eq, hn, Option.map_some, if_neg (by omega)])]
                              rw [← q1, ← q4]
                              exact ih (j + 1) r.1 r.2 (0) _ (by omega) q5.1 q5.2 (by omega) (fun z => absurd z (by omega))
                          · refine ⟨nI (op - 1), (nI_decp (by omega)), nI (j + 1), nI_add _ _, ?_⟩
                            have q := nx_sb (st := st) (op := op) (dg := dg) (s := s) hst (by omega) (by omega) (by omega) (by omega) hop hs
                            rw [hb] at q
                            cases hn : nxs st op dg s with
                            | none => rw [hn] at q; cases q
                            | some r =>
                              rw [hn] at q
                              obtain ⟨q1, q2⟩ : cm r.1 = c ∧ r.2 = (if s = 15 then op + 1 else if s = 16 then op - 1 else op) := by
                                have q3 := Option.some.inj q
                                exact ⟨congrArg (fun z => z.1) q3, congrArg (fun z => z.2) q3⟩
                              have q4 : r.2 = op - 1 := by rw [q2, if_neg (show ¬ s = 15 by omega), if_pos (show s = 16 by omega)]
                              have q5 := nx_le hst hop hn
                              rw [show flR (tx t) (nSaid t) (n + 1) j (st, op, dg) = flR (tx t) (nSaid t) n (j + 1) (r.1, r.2, 0) from flR_s (by rw [e0, nx_eq, hn, Option.map_some, if_neg (by omega)])]
                              rw [← q1, ← q4]
                              exact ih (j + 1) r.1 r.2 (0) _ (by omega) q5.1 q5.2 (by omega) (fun z => absurd z (by omega))
                        · refine ⟨nI (op + 1), nI_add _ _, ?_⟩
                          refine br_ne rfl rfl (by omega) (by omega) (fun h70 => ?_) (fun h70 => ?_)
                          · refine ⟨nI (j + 1), nI_add _ _, ?_⟩
                            have q := nx_sb (st := st) (op := op) (dg := dg) (s := s) hst (by omega) (by omega) (by omega) (by omega) hop hs
                            rw [hb] at q
                            cases hn : nxs st op dg s with
                            | none => rw [hn] at q; cases q
                            | some r =>
                              rw [hn] at q
                              obtain ⟨q1, q2⟩ : cm r.1 = c ∧ r.2 = (if s = 15 then op + 1 else if s = 16 then op - 1 else op) := by
                                have q3 := Option.some.inj q
                                exact ⟨congrArg (fun z => z.1) q3, congrArg (fun z => z.2) q3⟩
                              have q4 : r.2 = op + 1 := by rw [q2, if_pos (show s = 15 by omega)]
                              have q5 := nx_le hst hop hn
                              rw [show flR (tx t) (nSaid t) (n + 1) j (st, op, dg) = flR (tx t) (nSaid t) n (j + 1) (r.1, r.2, 0) from flR_s (by rw [e0, nx_eq, hn, Option.map_some, if_neg (by omega)])]
                              rw [← q1, ← q4]
                              exact ih (j + 1) r.1 r.2 (0) _ (by omega) q5.1 q5.2 (by omega) (fun z => absurd z (by omega))
                          · exact absurd h70 (by omega)
                      · exact absurd h61 (nI_m1 (by omega))
                    · refine ⟨?_, rfl⟩
                      rw [flR_n (q := (st, op, dg)) ?_]
                      rw [e0, nx_eq]
                      rw [nx_bad (by omega)]
                      rfl
                · refine br_eq rfl rfl (by omega) (by omega) (fun h47 => ?_) (fun h47 => ?_)
                  · refine ⟨?_, rfl⟩
                    rw [flR_n (q := (st, op, dg)) ?_]
                    rw [e0, nx_eq]
                    rw [nx_bad (by omega)]
                    rfl
                  · refine br_ne rfl rfl (by omega) (by omega) (fun h50 => ?_) (fun h50 => ?_)
                    · have hv := cv_sb (σ := σ) (c := cm st) (s := s) (cmx_le hst) hs
                      rw [hb] at hv
                      refine ⟨_, _, hv, _, rfl, ?_⟩
                      refine ⟨fun h61 => ?_, fun h61 => ?_⟩
                      · refine br_ne rfl rfl (by omega) (by omega) (fun h66 => ?_) (fun h66 => ?_)
                        · refine br_ne rfl rfl (by omega) (by omega) (fun h70 => ?_) (fun h70 => ?_)
                          · refine ⟨nI (j + 1), nI_add _ _, ?_⟩
                            have q := nx_sb (st := st) (op := op) (dg := dg) (s := s) hst (by omega) (by omega) (by omega) (by omega) hop hs
                            rw [hb] at q
                            cases hn : nxs st op dg s with
                            | none => rw [hn] at q; cases q
                            | some r =>
                              rw [hn] at q
                              obtain ⟨q1, q2⟩ : cm r.1 = c ∧ r.2 = (if s = 15 then op + 1 else if s = 16 then op - 1 else op) := by
                                have q3 := Option.some.inj q
                                exact ⟨congrArg (fun z => z.1) q3, congrArg (fun z => z.2) q3⟩
                              have q4 : r.2 = op := by rw [q2, if_neg (show ¬ s = 15 by omega), if_neg (show ¬ s = 16 by omega)]
                              have q5 := nx_le hst hop hn
                              rw [show flR (tx t) (nSaid t) (n + 1) j (st, op, dg) = flR (tx t) (nSaid t) n (j + 1) (r.1, r.2, 0) from flR_s (by rw [e0, nx_eq, hn, Option.map_some, if_neg (by omega)])]
                              rw [← q1, ← q4]
                              exact ih (j + 1) r.1 r.2 (0) _ (by omega) q5.1 q5.2 (by omega) (fun z => absurd z (by omega))
                          · refine ⟨nI (op - 1), (nI_decp (by omega)), nI (j + 1), nI_add _ _, ?_⟩
                            have q := nx_sb (st := st) (op := op) (dg := dg) (s := s) hst (by omega) (by omega) (by omega) (by omega) hop hs
                            rw [hb] at q
                            cases hn : nxs st op dg s with
                            | none => rw [hn] at q; cases q
                            | some r =>
                              rw [hn] at q
                              obtain ⟨q1, q2⟩ : cm r.1 = c ∧ r.2 = (if s = 15 then op + 1 else if s = 16 then op - 1 else op) := by
                                have q3 := Option.some.inj q
                                exact ⟨congrArg (fun z => z.1) q3, congrArg (fun z => z.2) q3⟩
                              have q4 : r.2 = op - 1 := by rw [q2, if_neg (show ¬ s = 15 by omega), if_pos (show s = 16 by omega)]
                              have q5 := nx_le hst hop hn
                              rw [show flR (tx t) (nSaid t) (n + 1) j (st, op, dg) = flR (tx t) (nSaid t) n (j + 1) (r.1, r.2, 0) from flR_s (by rw [e0, nx_eq, hn, Option.map_some, if_neg (by omega)])]
                              rw [← q1, ← q4]
                              exact ih (j + 1) r.1 r.2 (0) _ (by omega) q5.1 q5.2 (by omega) (fun z => absurd z (by omega))
                        · refine ⟨nI (op + 1), nI_add _ _, ?_⟩
                          refine br_ne rfl rfl (by omega) (by omega) (fun h70 => ?_) (fun h70 => ?_)
                          · refine ⟨nI (j + 1), nI_add _ _, ?_⟩
                            have q := nx_sb (st := st) (op := op) (dg := dg) (s := s) hst (by omega) (by omega) (by omega) (by omega) hop hs
                            rw [hb] at q
                            cases hn : nxs st op dg s with
                            | none => rw [hn] at q; cases q
                            | some r =>
                              rw [hn] at q
                              obtain ⟨q1, q2⟩ : cm r.1 = c ∧ r.2 = (if s = 15 then op + 1 else if s = 16 then op - 1 else op) := by
                                have q3 := Option.some.inj q
                                exact ⟨congrArg (fun z => z.1) q3, congrArg (fun z => z.2) q3⟩
                              have q4 : r.2 = op + 1 := by rw [q2, if_pos (show s = 15 by omega)]
                              have q5 := nx_le hst hop hn
                              rw [show flR (tx t) (nSaid t) (n + 1) j (st, op, dg) = flR (tx t) (nSaid t) n (j + 1) (r.1, r.2, 0) from flR_s (by rw [e0, nx_eq, hn, Option.map_some, if_neg (by omega)])]
                              rw [← q1, ← q4]
                              exact ih (j + 1) r.1 r.2 (0) _ (by omega) q5.1 q5.2 (by omega) (fun z => absurd z (by omega))
                          · exact absurd h70 (by omega)
                      · exact absurd h61 (nI_m1 (by omega))
                    · refine br_le rfl rfl (by omega) (by omega) (fun h52 => ?_) (fun h52 => ?_)
                      · have hv := cv_sb (σ := σ) (c := cm st) (s := s) (cmx_le hst) hs
                        rw [hb] at hv
                        refine ⟨_, _, hv, _, rfl, ?_⟩
                        refine ⟨fun h61 => ?_, fun h61 => ?_⟩
                        · refine br_ne rfl rfl (by omega) (by omega) (fun h66 => ?_) (fun h66 => ?_)
                          · refine br_ne rfl rfl (by omega) (by omega) (fun h70 => ?_) (fun h70 => ?_)
                            · refine ⟨nI (j + 1), nI_add _ _, ?_⟩
                              have q := nx_sb (st := st) (op := op) (dg := dg) (s := s) hst (by omega) (by omega) (by omega) (by omega) hop hs
                              rw [hb] at q
                              cases hn : nxs st op dg s with
                              | none => rw [hn] at q; cases q
                              | some r =>
                                rw [hn] at q
                                obtain ⟨q1, q2⟩ : cm r.1 = c ∧ r.2 = (if s = 15 then op + 1 else if s = 16 then op - 1 else op) := by
                                  have q3 := Option.some.inj q
                                  exact ⟨congrArg (fun z => z.1) q3, congrArg (fun z => z.2) q3⟩
                                have q4 : r.2 = op := by rw [q2, if_neg (show ¬ s = 15 by omega), if_neg (show ¬ s = 16 by omega)]
                                have q5 := nx_le hst hop hn
                                rw [show flR (tx t) (nSaid t) (n + 1) j (st, op, dg) = flR (tx t) (nSaid t) n (j + 1) (r.1, r.2, 0) from flR_s (by rw [e0, nx_eq, hn, Option.map_some, if_neg (by omega)])]
                                rw [← q1, ← q4]
                                exact ih (j + 1) r.1 r.2 (0) _ (by omega) q5.1 q5.2 (by omega) (fun z => absurd z (by omega))
                            · refine ⟨nI (op - 1), (nI_decp (by omega)), nI (j + 1), nI_add _ _, ?_⟩
                              have q := nx_sb (st := st) (op := op) (dg := dg) (s := s) hst (by omega) (by omega) (by omega) (by omega) hop hs
                              rw [hb] at q
                              cases hn : nxs st op dg s with
                              | none => rw [hn] at q; cases q
                              | some r =>
                                rw [hn] at q
                                obtain ⟨q1, q2⟩ : cm r.1 = c ∧ r.2 = (if s = 15 then op + 1 else if s = 16 then op - 1 else op) := by
                                  have q3 := Option.some.inj q
                                  exact ⟨congrArg (fun z => z.1) q3, congrArg (fun z => z.2) q3⟩
                                have q4 : r.2 = op - 1 := by rw [q2, if_neg (show ¬ s = 15 by omega), if_pos (show s = 16 by omega)]
                                have q5 := nx_le hst hop hn
                                rw [show flR (tx t) (nSaid t) (n + 1) j (st, op, dg) = flR (tx t) (nSaid t) n (j + 1) (r.1, r.2, 0) from flR_s (by rw [e0, nx_eq, hn, Option.map_some, if_neg (by omega)])]
                                rw [← q1, ← q4]
                                exact ih (j + 1) r.1 r.2 (0) _ (by omega) q5.1 q5.2 (by omega) (fun z => absurd z (by omega))
                          · refine ⟨nI (op + 1), nI_add _ _, ?_⟩
                            refine br_ne rfl rfl (by omega) (by omega) (fun h70 => ?_) (fun h70 => ?_)
                            · refine ⟨nI (j + 1), nI_add _ _, ?_⟩
                              have q := nx_sb (st := st) (op := op) (dg := dg) (s := s) hst (by omega) (by omega) (by omega) (by omega) hop hs
                              rw [hb] at q
                              cases hn : nxs st op dg s with
                              | none => rw [hn] at q; cases q
                              | some r =>
                                rw [hn] at q
                                obtain ⟨q1, q2⟩ : cm r.1 = c ∧ r.2 = (if s = 15 then op + 1 else if s = 16 then op - 1 else op) := by
                                  have q3 := Option.some.inj q
                                  exact ⟨congrArg (fun z => z.1) q3, congrArg (fun z => z.2) q3⟩
                                have q4 : r.2 = op + 1 := by rw [q2, if_pos (show s = 15 by omega)]
                                have q5 := nx_le hst hop hn
                                rw [show flR (tx t) (nSaid t) (n + 1) j (st, op, dg) = flR (tx t) (nSaid t) n (j + 1) (r.1, r.2, 0) from flR_s (by rw [e0, nx_eq, hn, Option.map_some, if_neg (by omega)])]
                                rw [← q1, ← q4]
                                exact ih (j + 1) r.1 r.2 (0) _ (by omega) q5.1 q5.2 (by omega) (fun z => absurd z (by omega))
                            · exact absurd h70 (by omega)
                        · exact absurd h61 (nI_m1 (by omega))
                      · refine ⟨?_, rfl⟩
                        rw [flR_n (q := (st, op, dg)) ?_]
                        rw [e0, nx_eq]
                        rw [nx_bad (by omega)]
                        rfl
              · refine br_ne rfl rfl (by omega) (by omega) (fun h40 => ?_) (fun h40 => ?_)
                · refine br_ne rfl rfl (by omega) (by omega) (fun h45 => ?_) (fun h45 => ?_)
                  · refine br_ne rfl rfl (by omega) (by omega) (fun h50 => ?_) (fun h50 => ?_)
                    · have hv := cv_sb (σ := σ) (c := cm st) (s := s) (cmx_le hst) hs
                      rw [hb] at hv
                      refine ⟨_, _, hv, _, rfl, ?_⟩
                      refine ⟨fun h61 => ?_, fun h61 => ?_⟩
                      · refine br_ne rfl rfl (by omega) (by omega) (fun h66 => ?_) (fun h66 => ?_)
                        · refine br_ne rfl rfl (by omega) (by omega) (fun h70 => ?_) (fun h70 => ?_)
                          · refine ⟨nI (j + 1), nI_add _ _, ?_⟩
                            have q := nx_sb (st := st) (op := op) (dg := dg) (s := s) hst (by omega) (by omega) (by omega) (by omega) hop hs
                            rw [hb] at q
                            cases hn : nxs st op dg s with
                            | none => rw [hn] at q; cases q
                            | some r =>
                              rw [hn] at q
                              obtain ⟨q1, q2⟩ : cm r.1 = c ∧ r.2 = (if s = 15 then op + 1 else if s = 16 then op - 1 else op) := by
                                have q3 := Option.some.inj q
                                exact ⟨congrArg (fun z => z.1) q3, congrArg (fun z => z.2) q3⟩
                              have q4 : r.2 = op := by rw [q2, if_neg (show ¬ s = 15 by omega), if_neg (show ¬ s = 16 by omega)]
                              have q5 := nx_le hst hop hn
                              rw [show flR (tx t) (nSaid t) (n + 1) j (st, op, dg) = flR (tx t) (nSaid t) n (j + 1) (r.1, r.2, 0) from flR_s (by rw [e0, nx_eq, hn, Option.map_some, if_neg (by omega)])]
                              rw [← q1, ← q4]
                              exact ih (j + 1) r.1 r.2 (0) _ (by omega) q5.1 q5.2 (by omega) (fun z => absurd z (by omega))
                          · refine ⟨nI (op - 1), (nI_decp (by omega)), nI (j + 1), nI_add _ _, ?_⟩
                            have q := nx_sb (st := st) (op := op) (dg := dg) (s := s) hst (by omega) (by omega) (by omega) (by omega) hop hs
                            rw [hb] at q
                            cases hn : nxs st op dg s with
                            | none => rw [hn] at q; cases q
                            | some r =>
                              rw [hn] at q
                              obtain ⟨q1, q2⟩ : cm r.1 = c ∧ r.2 = (if s = 15 then op + 1 else if s = 16 then op - 1 else op) := by
                                have q3 := Option.some.inj q
                                exact ⟨congrArg (fun z => z.1) q3, congrArg (fun z => z.2) q3⟩
                              have q4 : r.2 = op - 1 := by rw [q2, if_neg (show ¬ s = 15 by omega), if_pos (show s = 16 by omega)]
                              have q5 := nx_le hst hop hn
                              rw [show flR (tx t) (nSaid t) (n + 1) j (st, op, dg) = flR (tx t) (nSaid t) n (j + 1) (r.1, r.2, 0) from flR_s (by rw [e0, nx_eq, hn, Option.map_some, if_neg (by omega)])]
                              rw [← q1, ← q4]
                              exact ih (j + 1) r.1 r.2 (0) _ (by omega) q5.1 q5.2 (by omega) (fun z => absurd z (by omega))
                        · refine ⟨nI (op + 1), nI_add _ _, ?_⟩
                          refine br_ne rfl rfl (by omega) (by omega) (fun h70 => ?_) (fun h70 => ?_)
                          · refine ⟨nI (j + 1), nI_add _ _, ?_⟩
                            have q := nx_sb (st := st) (op := op) (dg := dg) (s := s) hst (by omega) (by omega) (by omega) (by omega) hop hs
                            rw [hb] at q
                            cases hn : nxs st op dg s with
                            | none => rw [hn] at q; cases q
                            | some r =>
                              rw [hn] at q
                              obtain ⟨q1, q2⟩ : cm r.1 = c ∧ r.2 = (if s = 15 then op + 1 else if s = 16 then op - 1 else op) := by
                                have q3 := Option.some.inj q
                                exact ⟨congrArg (fun z => z.1) q3, congrArg (fun z => z.2) q3⟩
                              have q4 : r.2 = op + 1 := by rw [q2, if_pos (show s = 15 by omega)]
                              have q5 := nx_le hst hop hn
                              rw [show flR (tx t) (nSaid t) (n + 1) j (st, op, dg) = flR (tx t) (nSaid t) n (j + 1) (r.1, r.2, 0) from flR_s (by rw [e0, nx_eq, hn, Option.map_some, if_neg (by omega)])]
                              rw [← q1, ← q4]
                              exact ih (j + 1) r.1 r.2 (0) _ (by omega) q5.1 q5.2 (by omega) (fun z => absurd z (by omega))
                          · exact absurd h70 (by omega)
                      · exact absurd h61 (nI_m1 (by omega))
                    · refine br_le rfl rfl (by omega) (by omega) (fun h52 => ?_) (fun h52 => ?_)
                      · have hv := cv_sb (σ := σ) (c := cm st) (s := s) (cmx_le hst) hs
                        rw [hb] at hv
                        refine ⟨_, _, hv, _, rfl, ?_⟩
                        refine ⟨fun h61 => ?_, fun h61 => ?_⟩
                        · refine br_ne rfl rfl (by omega) (by omega) (fun h66 => ?_) (fun h66 => ?_)
                          · refine br_ne rfl rfl (by omega) (by omega) (fun h70 => ?_) (fun h70 => ?_)
                            · refine ⟨nI (j + 1), nI_add _ _, ?_⟩
                              have q := nx_sb (st := st) (op := op) (dg := dg) (s := s) hst (by omega) (by omega) (by omega) (by omega) hop hs
                              rw [hb] at q
                              cases hn : nxs st op dg s with
                              | none => rw [hn] at q; cases q
                              | some r =>
                                rw [hn] at q
                                obtain ⟨q1, q2⟩ : cm r.1 = c ∧ r.2 = (if s = 15 then op + 1 else if s = 16 then op - 1 else op) := by
                                  have q3 := Option.some.inj q
                                  exact ⟨congrArg (fun z => z.1) q3, congrArg (fun z => z.2) q3⟩
                                have q4 : r.2 = op := by rw [q2, if_neg (show ¬ s = 15 by omega), if_neg (show ¬ s = 16 by omega)]
                                have q5 := nx_le hst hop hn
                                rw [show flR (tx t) (nSaid t) (n + 1) j (st, op, dg) = flR (tx t) (nSaid t) n (j + 1) (r.1, r.2, 0) from flR_s (by rw [e0, nx_eq, hn, Option.map_some, if_neg (by omega)])]
                                rw [← q1, ← q4]
                                exact ih (j + 1) r.1 r.2 (0) _ (by omega) q5.1 q5.2 (by omega) (fun z => absurd z (by omega))
                            · refine ⟨nI (op - 1), (nI_decp (by omega)), nI (j + 1), nI_add _ _, ?_⟩
                              have q := nx_sb (st := st) (op := op) (dg := dg) (s := s) hst (by omega) (by omega) (by omega) (by omega) hop hs
                              rw [hb] at q
                              cases hn : nxs st op dg s with
                              | none => rw [hn] at q; cases q
                              | some r =>
                                rw [hn] at q
                                obtain ⟨q1, q2⟩ : cm r.1 = c ∧ r.2 = (if s = 15 then op + 1 else if s = 16 then op - 1 else op) := by
                                  have q3 := Option.some.inj q
                                  exact ⟨congrArg (fun z => z.1) q3, congrArg (fun z => z.2) q3⟩
                                have q4 : r.2 = op - 1 := by rw [q2, if_neg (show ¬ s = 15 by omega), if_pos (show s = 16 by omega)]
                                have q5 := nx_le hst hop hn
                                rw [show flR (tx t) (nSaid t) (n + 1) j (st, op, dg) = flR (tx t) (nSaid t) n (j + 1) (r.1, r.2, 0) from flR_s (by rw [e0, nx_eq, hn, Option.map_some, if_neg (by omega)])]
                                rw [← q1, ← q4]
                                exact ih (j + 1) r.1 r.2 (0) _ (by omega) q5.1 q5.2 (by omega) (fun z => absurd z (by omega))
                          · refine ⟨nI (op + 1), nI_add _ _, ?_⟩
                            refine br_ne rfl rfl (by omega) (by omega) (fun h70 => ?_) (fun h70 => ?_)
                            · refine ⟨nI (j + 1), nI_add _ _, ?_⟩
                              have q := nx_sb (st := st) (op := op) (dg := dg) (s := s) hst (by omega) (by omega) (by omega) (by omega) hop hs
                              rw [hb] at q
                              cases hn : nxs st op dg s with
                              | none => rw [hn] at q; cases q
                              | some r =>
                                rw [hn] at q
                                obtain ⟨q1, q2⟩ : cm r.1 = c ∧ r.2 = (if s = 15 then op + 1 else if s = 16 then op - 1 else op) := by
                                  have q3 := Option.some.inj q
                                  exact ⟨congrArg (fun z => z.1) q3, congrArg (fun z => z.2) q3⟩
                                have q4 : r.2 = op + 1 := by rw [q2, if_pos (show s = 15 by omega)]
                                have q5 := nx_le hst hop hn
                                rw [show flR (tx t) (nSaid t) (n + 1) j (st, op, dg) = flR (tx t) (nSaid t) n (j + 1) (r.1, r.2, 0) from flR_s (by rw [e0, nx_eq, hn, Option.map_some, if_neg (by omega)])]
                                rw [← q1, ← q4]
                                exact ih (j + 1) r.1 r.2 (0) _ (by omega) q5.1 q5.2 (by omega) (fun z => absurd z (by omega))
                            · exact absurd h70 (by omega)
                        · exact absurd h61 (nI_m1 (by omega))
                      · refine ⟨?_, rfl⟩
                        rw [flR_n (q := (st, op, dg)) ?_]
                        rw [e0, nx_eq]
                        rw [nx_bad (by omega)]
                        rfl
                  · refine br_eq rfl rfl (by omega) (by omega) (fun h47 => ?_) (fun h47 => ?_)
                    · refine ⟨?_, rfl⟩
                      rw [flR_n (q := (st, op, dg)) ?_]
                      rw [e0, nx_eq]
                      rw [nx_bad (by omega)]
                      rfl
                    · refine br_ne rfl rfl (by omega) (by omega) (fun h50 => ?_) (fun h50 => ?_)
                      · have hv := cv_sb (σ := σ) (c := cm st) (s := s) (cmx_le hst) hs
                        rw [hb] at hv
                        refine ⟨_, _, hv, _, rfl, ?_⟩
                        refine ⟨fun h61 => ?_, fun h61 => ?_⟩
                        · refine br_ne rfl rfl (by omega) (by omega) (fun h66 => ?_) (fun h66 => ?_)
                          · refine br_ne rfl rfl (by omega) (by omega) (fun h70 => ?_) (fun h70 => ?_)
                            · refine ⟨nI (j + 1), nI_add _ _, ?_⟩
                              have q := nx_sb (st := st) (op := op) (dg := dg) (s := s) hst (by omega) (by omega) (by omega) (by omega) hop hs
                              rw [hb] at q
                              cases hn : nxs st op dg s with
                              | none => rw [hn] at q; cases q
                              | some r =>
                                rw [hn] at q
                                obtain ⟨q1, q2⟩ : cm r.1 = c ∧ r.2 = (if s = 15 then op + 1 else if s = 16 then op - 1 else op) := by
                                  have q3 := Option.some.inj q
                                  exact ⟨congrArg (fun z => z.1) q3, congrArg (fun z => z.2) q3⟩
                                have q4 : r.2 = op := by rw [q2, if_neg (show ¬ s = 15 by omega), if_neg (show ¬ s = 16 by omega)]
                                have q5 := nx_le hst hop hn
                                rw [show flR (tx t) (nSaid t) (n + 1) j (st, op, dg) = flR (tx t) (nSaid t) n (j + 1) (r.1, r.2, 0) from flR_s (by rw [e0, nx_eq, hn, Option.map_some, if_neg (by omega)])]
                                rw [← q1, ← q4]
                                exact ih (j + 1) r.1 r.2 (0) _ (by omega) q5.1 q5.2 (by omega) (fun z => absurd z (by omega))
                            · refine ⟨nI (op - 1), (nI_decp (by omega)), nI (j + 1), nI_add _ _, ?_⟩
                              have q := nx_sb (st := st) (op := op) (dg := dg) (s := s) hst (by omega) (by omega) (by omega) (by omega) hop hs
                              rw [hb] at q
                              cases hn : nxs st op dg s with
                              | none => rw [hn] at q; cases q
                              | some r =>
                                rw [hn] at q
                                obtain ⟨q1, q2⟩ : cm r.1 = c ∧ r.2 = (if s = 15 then op + 1 else if s = 16 then op - 1 else op) := by
                                  have q3 := Option.some.inj q
                                  exact ⟨congrArg (fun z => z.1) q3, congrArg (fun z => z.2) q3⟩
                                have q4 : r.2 = op - 1 := by rw [q2, if_neg (show ¬ s = 15 by omega), if_pos (show s = 16 by omega)]
                                have q5 := nx_le hst hop hn
                                rw [show flR (tx t) (nSaid t) (n + 1) j (st, op, dg) = flR (tx t) (nSaid t) n (j + 1) (r.1, r.2, 0) from flR_s (by rw [e0, nx_eq, hn, Option.map_some, if_neg (by omega)])]
                                rw [← q1, ← q4]
                                exact ih (j + 1) r.1 r.2 (0) _ (by omega) q5.1 q5.2 (by omega) (fun z => absurd z (by omega))
                          · refine ⟨nI (op + 1), nI_add _ _, ?_⟩
                            refine br_ne rfl rfl (by omega) (by omega) (fun h70 => ?_) (fun h70 => ?_)
                            · refine ⟨nI (j + 1), nI_add _ _, ?_⟩
                              have q := nx_sb (st := st) (op := op) (dg := dg) (s := s) hst (by omega) (by omega) (by omega) (by omega) hop hs
                              rw [hb] at q
                              cases hn : nxs st op dg s with
                              | none => rw [hn] at q; cases q
                              | some r =>
                                rw [hn] at q
                                obtain ⟨q1, q2⟩ : cm r.1 = c ∧ r.2 = (if s = 15 then op + 1 else if s = 16 then op - 1 else op) := by
                                  have q3 := Option.some.inj q
                                  exact ⟨congrArg (fun z => z.1) q3, congrArg (fun z => z.2) q3⟩
                                have q4 : r.2 = op + 1 := by rw [q2, if_pos (show s = 15 by omega)]
                                have q5 := nx_le hst hop hn
                                rw [show flR (tx t) (nSaid t) (n + 1) j (st, op, dg) = flR (tx t) (nSaid t) n (j + 1) (r.1, r.2, 0) from flR_s (by rw [e0, nx_eq, hn, Option.map_some, if_neg (by omega)])]
                                rw [← q1, ← q4]
                                exact ih (j + 1) r.1 r.2 (0) _ (by omega) q5.1 q5.2 (by omega) (fun z => absurd z (by omega))
                            · exact absurd h70 (by omega)
                        · exact absurd h61 (nI_m1 (by omega))
                      · refine br_le rfl rfl (by omega) (by omega) (fun h52 => ?_) (fun h52 => ?_)
                        · have hv := cv_sb (σ := σ) (c := cm st) (s := s) (cmx_le hst) hs
                          rw [hb] at hv
                          refine ⟨_, _, hv, _, rfl, ?_⟩
                          refine ⟨fun h61 => ?_, fun h61 => ?_⟩
                          · refine br_ne rfl rfl (by omega) (by omega) (fun h66 => ?_) (fun h66 => ?_)
                            · refine br_ne rfl rfl (by omega) (by omega) (fun h70 => ?_) (fun h70 => ?_)
                              · refine ⟨nI (j + 1), nI_add _ _, ?_⟩
                                have q := nx_sb (st := st) (op := op) (dg := dg) (s := s) hst (by omega) (by omega) (by omega) (by omega) hop hs
                                rw [hb] at q
                                cases hn : nxs st op dg s with
                                | none => rw [hn] at q; cases q
                                | some r =>
                                  rw [hn] at q
                                  obtain ⟨q1, q2⟩ : cm r.1 = c ∧ r.2 = (if s = 15 then op + 1 else if s = 16 then op - 1 else op) := by
                                    have q3 := Option.some.inj q
                                    exact ⟨congrArg (fun z => z.1) q3, congrArg (fun z => z.2) q3⟩
                                  have q4 : r.2 = op := by rw [q2, if_neg (show ¬ s = 15 by omega), if_neg (show ¬ s = 16 by omega)]
                                  have q5 := nx_le hst hop hn
                                  rw [show flR (tx t) (nSaid t) (n + 1) j (st, op, dg) = flR (tx t) (nSaid t) n (j + 1) (r.1, r.2, 0) from flR_s (by rw [e0, nx_eq, hn, Option.map_some, if_neg (by omega)])]
                                  rw [← q1, ← q4]
                                  exact ih (j + 1) r.1 r.2 (0) _ (by omega) q5.1 q5.2 (by omega) (fun z => absurd z (by omega))
                              · refine ⟨nI (op - 1), (nI_decp (by omega)), nI (j + 1), nI_add _ _, ?_⟩
                                have q := nx_sb (st := st) (op := op) (dg := dg) (s := s) hst (by omega) (by omega) (by omega) (by omega) hop hs
                                rw [hb] at q
                                cases hn : nxs st op dg s with
                                | none => rw [hn] at q; cases q
                                | some r =>
                                  rw [hn] at q
                                  obtain ⟨q1, q2⟩ : cm r.1 = c ∧ r.2 = (if s = 15 then op + 1 else if s = 16 then op - 1 else op) := by
                                    have q3 := Option.some.inj q
                                    exact ⟨congrArg (fun z => z.1) q3, congrArg (fun z => z.2) q3⟩
                                  have q4 : r.2 = op - 1 := by rw [q2, if_neg (show ¬ s = 15 by omega), if_pos (show s = 16 by omega)]
                                  have q5 := nx_le hst hop hn
                                  rw [show flR (tx t) (nSaid t) (n + 1) j (st, op, dg) = flR (tx t) (nSaid t) n (j + 1) (r.1, r.2, 0) from flR_s (by rw [e0, nx_eq, hn, Option.map_some, if_neg (by omega)])]
                                  rw [← q1, ← q4]
                                  exact ih (j + 1) r.1 r.2 (0) _ (by omega) q5.1 q5.2 (by omega) (fun z => absurd z (by omega))
                            · refine ⟨nI (op + 1), nI_add _ _, ?_⟩
                              refine br_ne rfl rfl (by omega) (by omega) (fun h70 => ?_) (fun h70 => ?_)
                              · refine ⟨nI (j + 1), nI_add _ _, ?_⟩
                                have q := nx_sb (st := st) (op := op) (dg := dg) (s := s) hst (by omega) (by omega) (by omega) (by omega) hop hs
                                rw [hb] at q
                                cases hn : nxs st op dg s with
                                | none => rw [hn] at q; cases q
                                | some r =>
                                  rw [hn] at q
                                  obtain ⟨q1, q2⟩ : cm r.1 = c ∧ r.2 = (if s = 15 then op + 1 else if s = 16 then op - 1 else op) := by
                                    have q3 := Option.some.inj q
                                    exact ⟨congrArg (fun z => z.1) q3, congrArg (fun z => z.2) q3⟩
                                  have q4 : r.2 = op + 1 := by rw [q2, if_pos (show s = 15 by omega)]
                                  have q5 := nx_le hst hop hn
                                  rw [show flR (tx t) (nSaid t) (n + 1) j (st, op, dg) = flR (tx t) (nSaid t) n (j + 1) (r.1, r.2, 0) from flR_s (by rw [e0, nx_eq, hn, Option.map_some, if_neg (by omega)])]
                                  rw [← q1, ← q4]
                                  exact ih (j + 1) r.1 r.2 (0) _ (by omega) q5.1 q5.2 (by omega) (fun z => absurd z (by omega))
                              · exact absurd h70 (by omega)
                          · exact absurd h61 (nI_m1 (by omega))
                        · refine ⟨?_, rfl⟩
                          rw [flR_n (q := (st, op, dg)) ?_]
                          rw [e0, nx_eq]
                          rw [nx_bad (by omega)]
                          rfl
                · refine ⟨?_, rfl⟩
                  rw [flR_n (q := (st, op, dg)) ?_]
                  rw [e0, nx_eq]
                  rw [nx_bad (by omega)]
                  rfl
            · exact absurd h33 (by omega)
          · exact absurd h28 (by omega)
        · refine ⟨nI (dg + 1), (add_n rfl rfl), ?_⟩
          refine br_le rfl rfl (by omega) (by omega) (fun h28 => ?_) (fun h28 => ?_)
          · refine br_le rfl rfl (by omega) (by omega) (fun h33 => ?_) (fun h33 => ?_)
            · refine br_ne rfl rfl (by omega) (by omega) (fun h37 => ?_) (fun h37 => ?_)
              · refine br_ne rfl rfl (by omega) (by omega) (fun h45 => ?_) (fun h45 => ?_)
                · refine br_ne rfl rfl (by omega) (by omega) (fun h50 => ?_) (fun h50 => ?_)
                  · have hv := cv_sb (σ := σ) (c := cm st) (s := s) (cmx_le hst) hs
                    rw [hb] at hv
                    refine ⟨_, _, hv, _, rfl, ?_⟩
                    refine ⟨fun h61 => ?_, fun h61 => ?_⟩
                    · refine br_ne rfl rfl (by omega) (by omega) (fun h66 => ?_) (fun h66 => ?_)
                      · refine br_ne rfl rfl (by omega) (by omega) (fun h70 => ?_) (fun h70 => ?_)
                        · refine ⟨nI (j + 1), nI_add _ _, ?_⟩
                          have q := nx_sb (st := st) (op := op) (dg := dg) (s := s) hst (by omega) (by omega) (by omega) (by omega) hop hs
                          rw [hb] at q
                          cases hn : nxs st op dg s with
                          | none => rw [hn] at q; cases q
                          | some r =>
                            rw [hn] at q
                            obtain ⟨q1, q2⟩ : cm r.1 = c ∧ r.2 = (if s = 15 then op + 1 else if s = 16 then op - 1 else op) := by
                              have q3 := Option.some.inj q
                              exact ⟨congrArg (fun z => z.1) q3, congrArg (fun z => z.2) q3⟩
                            have q4 : r.2 = op := by rw [q2, if_neg (show ¬ s = 15 by omega), if_neg (show ¬ s = 16 by omega)]
                            have q5 := nx_le hst hop hn
                            rw [show flR (tx t) (nSaid t) (n + 1) j (st, op, dg) = flR (tx t) (nSaid t) n (j + 1) (r.1, r.2, dg + 1) from flR_s (by rw [e0, nx_eq, hn, Option.map_some, if_pos (by omega)])]
                            rw [← q1, ← q4]
                            exact ih (j + 1) r.1 r.2 (dg + 1) _ (by omega) q5.1 q5.2 (by omega) (fun z => nx_lo hst (by omega) hn)
                        · refine ⟨nI (op - 1), (nI_decp (by omega)), nI (j + 1), nI_add _ _, ?_⟩
                          have q := nx_sb (st := st) (op := op) (dg := dg) (s := s) hst (by omega) (by omega) (by omega) (by omega) hop hs
                          rw [hb] at q
                          cases hn : nxs st op dg s with
                          | none => rw [hn] at q; cases q
                          | some r =>
                            rw [hn] at q
                            obtain ⟨q1, q2⟩ : cm r.1 = c ∧ r.2 = (if s = 15 then op + 1 else if s = 16 then op - 1 else op) := by
                              have q3 := Option.some.inj q
                              exact ⟨congrArg (fun z => z.1) q3, congrArg (fun z => z.2) q3⟩
                            have q4 : r.2 = op - 1 := by rw [q2, if_neg (show ¬ s = 15 by omega), if_pos (show s = 16 by omega)]
                            have q5 := nx_le hst hop hn
                            rw [show flR (tx t) (nSaid t) (n + 1) j (st, op, dg) = flR (tx t) (nSaid t) n (j + 1) (r.1, r.2, dg + 1) from flR_s (by rw [e0, nx_eq, hn, Option.map_some, if_pos (by omega)])]
                            rw [← q1, ← q4]
                            exact ih (j + 1) r.1 r.2 (dg + 1) _ (by omega) q5.1 q5.2 (by omega) (fun z => nx_lo hst (by omega) hn)
                      · refine ⟨nI (op + 1), nI_add _ _, ?_⟩
                        refine br_ne rfl rfl (by omega) (by omega) (fun h70 => ?_) (fun h70 => ?_)
                        · refine ⟨nI (j + 1), nI_add _ _, ?_⟩
                          have q := nx_sb (st := st) (op := op) (dg := dg) (s := s) hst (by omega) (by omega) (by omega) (by omega) hop hs
                          rw [hb] at q
                          cases hn : nxs st op dg s with
                          | none => rw [hn] at q; cases q
                          | some r =>
                            rw [hn] at q
                            obtain ⟨q1, q2⟩ : cm r.1 = c ∧ r.2 = (if s = 15 then op + 1 else if s = 16 then op - 1 else op) := by
                              have q3 := Option.some.inj q
                              exact ⟨congrArg (fun z => z.1) q3, congrArg (fun z => z.2) q3⟩
                            have q4 : r.2 = op + 1 := by rw [q2, if_pos (show s = 15 by omega)]
                            have q5 := nx_le hst hop hn
                            rw [show flR (tx t) (nSaid t) (n + 1) j (st, op, dg) = flR (tx t) (nSaid t) n (j + 1) (r.1, r.2, dg + 1) from flR_s (by rw [e0, nx_eq, hn, Option.map_some, if_pos (by omega)])]
                            rw [← q1, ← q4]
                            exact ih (j + 1) r.1 r.2 (dg + 1) _ (by omega) q5.1 q5.2 (by omega) (fun z => nx_lo hst (by omega) hn)
                        · exact absurd h70 (by omega)
                    · exact absurd h61 (nI_m1 (by omega))
                  · refine br_le rfl rfl (by omega) (by omega) (fun h52 => ?_) (fun h52 => ?_)
                    · have hv := cv_sb (σ := σ) (c := cm st) (s := s) (cmx_le hst) hs
                      rw [hb] at hv
                      refine ⟨_, _, hv, _, rfl, ?_⟩
                      refine ⟨fun h61 => ?_, fun h61 => ?_⟩
                      · refine br_ne rfl rfl (by omega) (by omega) (fun h66 => ?_) (fun h66 => ?_)
                        · refine br_ne rfl rfl (by omega) (by omega) (fun h70 => ?_) (fun h70 => ?_)
                          · refine ⟨nI (j + 1), nI_add _ _, ?_⟩
                            have q := nx_sb (st := st) (op := op) (dg := dg) (s := s) hst (by omega) (by omega) (by omega) (by omega) hop hs
                            rw [hb] at q
                            cases hn : nxs st op dg s with
                            | none => rw [hn] at q; cases q
                            | some r =>
                              rw [hn] at q
                              obtain ⟨q1, q2⟩ : cm r.1 = c ∧ r.2 = (if s = 15 then op + 1 else if s = 16 then op - 1 else op) := by
                                have q3 := Option.some.inj q
                                exact ⟨congrArg (fun z => z.1) q3, congrArg (fun z => z.2) q3⟩
                              have q4 : r.2 = op := by rw [q2, if_neg (show ¬ s = 15 by omega), if_neg (show ¬ s = 16 by omega)]
                              have q5 := nx_le hst hop hn
                              rw [show flR (tx t) (nSaid t) (n + 1) j (st, op, dg) = flR (tx t) (nSaid t) n (j + 1) (r.1, r.2, dg + 1) from flR_s (by rw [e0, nx_eq, hn, Option.map_some, if_pos (by omega)])]
                              rw [← q1, ← q4]
                              exact ih (j + 1) r.1 r.2 (dg + 1) _ (by omega) q5.1 q5.2 (by omega) (fun z => nx_lo hst (by omega) hn)
                          · refine ⟨nI (op - 1), (nI_decp (by omega)), nI (j + 1), nI_add _ _, ?_⟩
                            have q := nx_sb (st := st) (op := op) (dg := dg) (s := s) hst (by omega) (by omega) (by omega) (by omega) hop hs
                            rw [hb] at q
                            cases hn : nxs st op dg s with
                            | none => rw [hn] at q; cases q
                            | some r =>
                              rw [hn] at q
                              obtain ⟨q1, q2⟩ : cm r.1 = c ∧ r.2 = (if s = 15 then op + 1 else if s = 16 then op - 1 else op) := by
                                have q3 := Option.some.inj q
                                exact ⟨congrArg (fun z => z.1) q3, congrArg (fun z => z.2) q3⟩
                              have q4 : r.2 = op - 1 := by rw [q2, if_neg (show ¬ s = 15 by omega), if_pos (show s = 16 by omega)]
                              have q5 := nx_le hst hop hn
                              rw [show flR (tx t) (nSaid t) (n + 1) j (st, op, dg) = flR (tx t) (nSaid t) n (j + 1) (r.1, r.2, dg + 1) from flR_s (by rw [e0, nx_eq, hn, Option.map_some, if_pos (by omega)])]
                              rw [← q1, ← q4]
                              exact ih (j + 1) r.1 r.2 (dg + 1) _ (by omega) q5.1 q5.2 (by omega) (fun z => nx_lo hst (by omega) hn)
                        · refine ⟨nI (op + 1), nI_add _ _, ?_⟩
                          refine br_ne rfl rfl (by omega) (by omega) (fun h70 => ?_) (fun h70 => ?_)
                          · refine ⟨nI (j + 1), nI_add _ _, ?_⟩
                            have q := nx_sb (st := st) (op := op) (dg := dg) (s := s) hst (by omega) (by omega) (by omega) (by omega) hop hs
                            rw [hb] at q
                            cases hn : nxs st op dg s with
                            | none => rw [hn] at q; cases q
                            | some r =>
                              rw [hn] at q
                              obtain ⟨q1, q2⟩ : cm r.1 = c ∧ r.2 = (if s = 15 then op + 1 else if s = 16 then op - 1 else op) := by
                                have q3 := Option.some.inj q
                                exact ⟨congrArg (fun z => z.1) q3, congrArg (fun z => z.2) q3⟩
                              have q4 : r.2 = op + 1 := by rw [q2, if_pos (show s = 15 by omega)]
                              have q5 := nx_le hst hop hn
                              rw [show flR (tx t) (nSaid t) (n + 1) j (st, op, dg) = flR (tx t) (nSaid t) n (j + 1) (r.1, r.2, dg + 1) from flR_s (by rw [e0, nx_eq, hn, Option.map_some, if_pos (by omega)])]
                              rw [← q1, ← q4]
                              exact ih (j + 1) r.1 r.2 (dg + 1) _ (by omega) q5.1 q5.2 (by omega) (fun z => nx_lo hst (by omega) hn)
                          · exact absurd h70 (by omega)
                      · exact absurd h61 (nI_m1 (by omega))
                    · refine ⟨?_, rfl⟩
                      rw [flR_n (q := (st, op, dg)) ?_]
                      rw [e0, nx_eq]
                      rw [nx_bad (by omega)]
                      rfl
                · refine br_eq rfl rfl (by omega) (by omega) (fun h47 => ?_) (fun h47 => ?_)
                  · refine ⟨?_, rfl⟩
                    rw [flR_n (q := (st, op, dg)) ?_]
                    rw [e0, nx_eq]
                    rw [nx_bad (by omega)]
                    rfl
                  · refine br_ne rfl rfl (by omega) (by omega) (fun h50 => ?_) (fun h50 => ?_)
                    · have hv := cv_sb (σ := σ) (c := cm st) (s := s) (cmx_le hst) hs
                      rw [hb] at hv
                      refine ⟨_, _, hv, _, rfl, ?_⟩
                      refine ⟨fun h61 => ?_, fun h61 => ?_⟩
                      · refine br_ne rfl rfl (by omega) (by omega) (fun h66 => ?_) (fun h66 => ?_)
                        · refine br_ne rfl rfl (by omega) (by omega) (fun h70 => ?_) (fun h70 => ?_)
                          · refine ⟨nI (j + 1), nI_add _ _, ?_⟩
                            have q := nx_sb (st := st) (op := op) (dg := dg) (s := s) hst (by omega) (by omega) (by omega) (by omega) hop hs
                            rw [hb] at q
                            cases hn : nxs st op dg s with
                            | none => rw [hn] at q; cases q
                            | some r =>
                              rw [hn] at q
                              obtain ⟨q1, q2⟩ : cm r.1 = c ∧ r.2 = (if s = 15 then op + 1 else if s = 16 then op - 1 else op) := by
                                have q3 := Option.some.inj q
                                exact ⟨congrArg (fun z => z.1) q3, congrArg (fun z => z.2) q3⟩
                              have q4 : r.2 = op := by rw [q2, if_neg (show ¬ s = 15 by omega), if_neg (show ¬ s = 16 by omega)]
                              have q5 := nx_le hst hop hn
                              rw [show flR (tx t) (nSaid t) (n + 1) j (st, op, dg) = flR (tx t) (nSaid t) n (j + 1) (r.1, r.2, dg + 1) from flR_s (by rw [e0, nx_eq, hn, Option.map_some, if_pos (by omega)])]
                              rw [← q1, ← q4]
                              exact ih (j + 1) r.1 r.2 (dg + 1) _ (by omega) q5.1 q5.2 (by omega) (fun z => nx_lo hst (by omega) hn)
                          · refine ⟨nI (op - 1), (nI_decp (by omega)), nI (j + 1), nI_add _ _, ?_⟩
                            have q := nx_sb (st := st) (op := op) (dg := dg) (s := s) hst (by omega) (by omega) (by omega) (by omega) hop hs
                            rw [hb] at q
                            cases hn : nxs st op dg s with
                            | none => rw [hn] at q; cases q
                            | some r =>
                              rw [hn] at q
                              obtain ⟨q1, q2⟩ : cm r.1 = c ∧ r.2 = (if s = 15 then op + 1 else if s = 16 then op - 1 else op) := by
                                have q3 := Option.some.inj q
                                exact ⟨congrArg (fun z => z.1) q3, congrArg (fun z => z.2) q3⟩
                              have q4 : r.2 = op - 1 := by rw [q2, if_neg (show ¬ s = 15 by omega), if_pos (show s = 16 by omega)]
                              have q5 := nx_le hst hop hn
                              rw [show flR (tx t) (nSaid t) (n + 1) j (st, op, dg) = flR (tx t) (nSaid t) n (j + 1) (r.1, r.2, dg + 1) from flR_s (by rw [e0, nx_eq, hn, Option.map_some, if_pos (by omega)])]
                              rw [← q1, ← q4]
                              exact ih (j + 1) r.1 r.2 (dg + 1) _ (by omega) q5.1 q5.2 (by omega) (fun z => nx_lo hst (by omega) hn)
                        · refine ⟨nI (op + 1), nI_add _ _, ?_⟩
                          refine br_ne rfl rfl (by omega) (by omega) (fun h70 => ?_) (fun h70 => ?_)
                          · refine ⟨nI (j + 1), nI_add _ _, ?_⟩
                            have q := nx_sb (st := st) (op := op) (dg := dg) (s := s) hst (by omega) (by omega) (by omega) (by omega) hop hs
                            rw [hb] at q
                            cases hn : nxs st op dg s with
                            | none => rw [hn] at q; cases q
                            | some r =>
                              rw [hn] at q
                              obtain ⟨q1, q2⟩ : cm r.1 = c ∧ r.2 = (if s = 15 then op + 1 else if s = 16 then op - 1 else op) := by
                                have q3 := Option.some.inj q
                                exact ⟨congrArg (fun z => z.1) q3, congrArg (fun z => z.2) q3⟩
                              have q4 : r.2 = op + 1 := by rw [q2, if_pos (show s = 15 by omega)]
                              have q5 := nx_le hst hop hn
                              rw [show flR (tx t) (nSaid t) (n + 1) j (st, op, dg) = flR (tx t) (nSaid t) n (j + 1) (r.1, r.2, dg + 1) from flR_s (by rw [e0, nx_eq, hn, Option.map_some, if_pos (by omega)])]
                              rw [← q1, ← q4]
                              exact ih (j + 1) r.1 r.2 (dg + 1) _ (by omega) q5.1 q5.2 (by omega) (fun z => nx_lo hst (by omega) hn)
                          · exact absurd h70 (by omega)
                      · exact absurd h61 (nI_m1 (by omega))
                    · refine br_le rfl rfl (by omega) (by omega) (fun h52 => ?_) (fun h52 => ?_)
                      · have hv := cv_sb (σ := σ) (c := cm st) (s := s) (cmx_le hst) hs
                        rw [hb] at hv
                        refine ⟨_, _, hv, _, rfl, ?_⟩
                        refine ⟨fun h61 => ?_, fun h61 => ?_⟩
                        · refine br_ne rfl rfl (by omega) (by omega) (fun h66 => ?_) (fun h66 => ?_)
                          · refine br_ne rfl rfl (by omega) (by omega) (fun h70 => ?_) (fun h70 => ?_)
                            · refine ⟨nI (j + 1), nI_add _ _, ?_⟩
                              have q := nx_sb (st := st) (op := op) (dg := dg) (s := s) hst (by omega) (by omega) (by omega) (by omega) hop hs
                              rw [hb] at q
                              cases hn : nxs st op dg s with
                              | none => rw [hn] at q; cases q
                              | some r =>
                                rw [hn] at q
                                obtain ⟨q1, q2⟩ : cm r.1 = c ∧ r.2 = (if s = 15 then op + 1 else if s = 16 then op - 1 else op) := by
                                  have q3 := Option.some.inj q
                                  exact ⟨congrArg (fun z => z.1) q3, congrArg (fun z => z.2) q3⟩
                                have q4 : r.2 = op := by rw [q2, if_neg (show ¬ s = 15 by omega), if_neg (show ¬ s = 16 by omega)]
                                have q5 := nx_le hst hop hn
                                rw [show flR (tx t) (nSaid t) (n + 1) j (st, op, dg) = flR (tx t) (nSaid t) n (j + 1) (r.1, r.2, dg + 1) from flR_s (by rw [e0, nx_eq, hn, Option.map_some, if_pos (by omega)])]
                                rw [← q1, ← q4]
                                exact ih (j + 1) r.1 r.2 (dg + 1) _ (by omega) q5.1 q5.2 (by omega) (fun z => nx_lo hst (by omega) hn)
                            · refine ⟨nI (op - 1), (nI_decp (by omega)), nI (j + 1), nI_add _ _, ?_⟩
                              have q := nx_sb (st := st) (op := op) (dg := dg) (s := s) hst (by omega) (by omega) (by omega) (by omega) hop hs
                              rw [hb] at q
                              cases hn : nxs st op dg s with
                              | none => rw [hn] at q; cases q
                              | some r =>
                                rw [hn] at q
                                obtain ⟨q1, q2⟩ : cm r.1 = c ∧ r.2 = (if s = 15 then op + 1 else if s = 16 then op - 1 else op) := by
                                  have q3 := Option.some.inj q
                                  exact ⟨congrArg (fun z => z.1) q3, congrArg (fun z => z.2) q3⟩
                                have q4 : r.2 = op - 1 := by rw [q2, if_neg (show ¬ s = 15 by omega), if_pos (show s = 16 by omega)]
                                have q5 := nx_le hst hop hn
                                rw [show flR (tx t) (nSaid t) (n + 1) j (st, op, dg) = flR (tx t) (nSaid t) n (j + 1) (r.1, r.2, dg + 1) from flR_s (by rw [e0, nx_eq, hn, Option.map_some, if_pos (by omega)])]
                                rw [← q1, ← q4]
                                exact ih (j + 1) r.1 r.2 (dg + 1) _ (by omega) q5.1 q5.2 (by omega) (fun z => nx_lo hst (by omega) hn)
                          · refine ⟨nI (op + 1), nI_add _ _, ?_⟩
                            refine br_ne rfl rfl (by omega) (by omega) (fun h70 => ?_) (fun h70 => ?_)
                            · refine ⟨nI (j + 1), nI_add _ _, ?_⟩
                              have q := nx_sb (st := st) (op := op) (dg := dg) (s := s) hst (by omega) (by omega) (by omega) (by omega) hop hs
                              rw [hb] at q
                              cases hn : nxs st op dg s with
                              | none => rw [hn] at q; cases q
                              | some r =>
                                rw [hn] at q
                                obtain ⟨q1, q2⟩ : cm r.1 = c ∧ r.2 = (if s = 15 then op + 1 else if s = 16 then op - 1 else op) := by
                                  have q3 := Option.some.inj q
                                  exact ⟨congrArg (fun z => z.1) q3, congrArg (fun z => z.2) q3⟩
                                have q4 : r.2 = op + 1 := by rw [q2, if_pos (show s = 15 by omega)]
                                have q5 := nx_le hst hop hn
                                rw [show flR (tx t) (nSaid t) (n + 1) j (st, op, dg) = flR (tx t) (nSaid t) n (j + 1) (r.1, r.2, dg + 1) from flR_s (by rw [e0, nx_eq, hn, Option.map_some, if_pos (by omega)])]
                                rw [← q1, ← q4]
                                exact ih (j + 1) r.1 r.2 (dg + 1) _ (by omega) q5.1 q5.2 (by omega) (fun z => nx_lo hst (by omega) hn)
                            · exact absurd h70 (by omega)
                        · exact absurd h61 (nI_m1 (by omega))
                      · refine ⟨?_, rfl⟩
                        rw [flR_n (q := (st, op, dg)) ?_]
                        rw [e0, nx_eq]
                        rw [nx_bad (by omega)]
                        rfl
              · refine br_ne rfl rfl (by omega) (by omega) (fun h40 => ?_) (fun h40 => ?_)
                · refine br_ne rfl rfl (by omega) (by omega) (fun h45 => ?_) (fun h45 => ?_)
                  · refine br_ne rfl rfl (by omega) (by omega) (fun h50 => ?_) (fun h50 => ?_)
                    · have hv := cv_sb (σ := σ) (c := cm st) (s := s) (cmx_le hst) hs
                      rw [hb] at hv
                      refine ⟨_, _, hv, _, rfl, ?_⟩
                      refine ⟨fun h61 => ?_, fun h61 => ?_⟩
                      · refine br_ne rfl rfl (by omega) (by omega) (fun h66 => ?_) (fun h66 => ?_)
                        · refine br_ne rfl rfl (by omega) (by omega) (fun h70 => ?_) (fun h70 => ?_)
                          · refine ⟨nI (j + 1), nI_add _ _, ?_⟩
                            have q := nx_sb (st := st) (op := op) (dg := dg) (s := s) hst (by omega) (by omega) (by omega) (by omega) hop hs
                            rw [hb] at q
                            cases hn : nxs st op dg s with
                            | none => rw [hn] at q; cases q
                            | some r =>
                              rw [hn] at q
                              obtain ⟨q1, q2⟩ : cm r.1 = c ∧ r.2 = (if s = 15 then op + 1 else if s = 16 then op - 1 else op) := by
                                have q3 := Option.some.inj q
                                exact ⟨congrArg (fun z => z.1) q3, congrArg (fun z => z.2) q3⟩
                              have q4 : r.2 = op := by rw [q2, if_neg (show ¬ s = 15 by omega), if_neg (show ¬ s = 16 by omega)]
                              have q5 := nx_le hst hop hn
                              rw [show flR (tx t) (nSaid t) (n + 1) j (st, op, dg) = flR (tx t) (nSaid t) n (j + 1) (r.1, r.2, dg + 1) from flR_s (by rw [e0, nx_eq, hn, Option.map_some, if_pos (by omega)])]
                              rw [← q1, ← q4]
                              exact ih (j + 1) r.1 r.2 (dg + 1) _ (by omega) q5.1 q5.2 (by omega) (fun z => nx_lo hst (by omega) hn)
                          · refine ⟨nI (op - 1), (nI_decp (by omega)), nI (j + 1), nI_add _ _, ?_⟩
                            have q := nx_sb (st := st) (op := op) (dg := dg) (s := s) hst (by omega) (by omega) (by omega) (by omega) hop hs
                            rw [hb] at q
                            cases hn : nxs st op dg s with
                            | none => rw [hn] at q; cases q
                            | some r =>
                              rw [hn] at q
                              obtain ⟨q1, q2⟩ : cm r.1 = c ∧ r.2 = (if s = 15 then op + 1 else if s = 16 then op - 1 else op) := by
                                have q3 := Option.some.inj q
                                exact ⟨congrArg (fun z => z.1) q3, congrArg (fun z => z.2) q3⟩
                              have q4 : r.2 = op - 1 := by rw [q2, if_neg (show ¬ s = 15 by omega), if_pos (show s = 16 by omega)]
                              have q5 := nx_le hst hop hn
                              rw [show flR (tx t) (nSaid t) (n + 1) j (st, op, dg) = flR (tx t) (nSaid t) n (j + 1) (r.1, r.2, dg + 1) from flR_s (by rw [e0, nx_eq, hn, Option.map_some, if_pos (by omega)])]
                              rw [← q1, ← q4]
                              exact ih (j + 1) r.1 r.2 (dg + 1) _ (by omega) q5.1 q5.2 (by omega) (fun z => nx_lo hst (by omega) hn)
                        · refine ⟨nI (op + 1), nI_add _ _, ?_⟩
                          refine br_ne rfl rfl (by omega) (by omega) (fun h70 => ?_) (fun h70 => ?_)
                          · refine ⟨nI (j + 1), nI_add _ _, ?_⟩
                            have q := nx_sb (st := st) (op := op) (dg := dg) (s := s) hst (by omega) (by omega) (by omega) (by omega) hop hs
                            rw [hb] at q
                            cases hn : nxs st op dg s with
                            | none => rw [hn] at q; cases q
                            | some r =>
                              rw [hn] at q
                              obtain ⟨q1, q2⟩ : cm r.1 = c ∧ r.2 = (if s = 15 then op + 1 else if s = 16 then op - 1 else op) := by
                                have q3 := Option.some.inj q
                                exact ⟨congrArg (fun z => z.1) q3, congrArg (fun z => z.2) q3⟩
                              have q4 : r.2 = op + 1 := by rw [q2, if_pos (show s = 15 by omega)]
                              have q5 := nx_le hst hop hn
                              rw [show flR (tx t) (nSaid t) (n + 1) j (st, op, dg) = flR (tx t) (nSaid t) n (j + 1) (r.1, r.2, dg + 1) from flR_s (by rw [e0, nx_eq, hn, Option.map_some, if_pos (by omega)])]
                              rw [← q1, ← q4]
                              exact ih (j + 1) r.1 r.2 (dg + 1) _ (by omega) q5.1 q5.2 (by omega) (fun z => nx_lo hst (by omega) hn)
                          · exact absurd h70 (by omega)
                      · exact absurd h61 (nI_m1 (by omega))
                    · refine br_le rfl rfl (by omega) (by omega) (fun h52 => ?_) (fun h52 => ?_)
                      · have hv := cv_sb (σ := σ) (c := cm st) (s := s) (cmx_le hst) hs
                        rw [hb] at hv
                        refine ⟨_, _, hv, _, rfl, ?_⟩
                        refine ⟨fun h61 => ?_, fun h61 => ?_⟩
                        · refine br_ne rfl rfl (by omega) (by omega) (fun h66 => ?_) (fun h66 => ?_)
                          · refine br_ne rfl rfl (by omega) (by omega) (fun h70 => ?_) (fun h70 => ?_)
                            · refine ⟨nI (j + 1), nI_add _ _, ?_⟩
                              have q := nx_sb (st := st) (op := op) (dg := dg) (s := s) hst (by omega) (by omega) (by omega) (by omega) hop hs
                              rw [hb] at q
                              cases hn : nxs st op dg s with
                              | none => rw [hn] at q; cases q
                              | some r =>
                                rw [hn] at q
                                obtain ⟨q1, q2⟩ : cm r.1 = c ∧ r.2 = (if s = 15 then op + 1 else if s = 16 then op - 1 else op) := by
                                  have q3 := Option.some.inj q
                                  exact ⟨congrArg (fun z => z.1) q3, congrArg (fun z => z.2) q3⟩
                                have q4 : r.2 = op := by rw [q2, if_neg (show ¬ s = 15 by omega), if_neg (show ¬ s = 16 by omega)]
                                have q5 := nx_le hst hop hn
                                rw [show flR (tx t) (nSaid t) (n + 1) j (st, op, dg) = flR (tx t) (nSaid t) n (j + 1) (r.1, r.2, dg + 1) from flR_s (by rw [e0, nx_eq, hn, Option.map_some, if_pos (by omega)])]
                                rw [← q1, ← q4]
                                exact ih (j + 1) r.1 r.2 (dg + 1) _ (by omega) q5.1 q5.2 (by omega) (fun z => nx_lo hst (by omega) hn)
                            · refine ⟨nI (op - 1), (nI_decp (by omega)), nI (j + 1), nI_add _ _, ?_⟩
                              have q := nx_sb (st := st) (op := op) (dg := dg) (s := s) hst (by omega) (by omega) (by omega) (by omega) hop hs
                              rw [hb] at q
                              cases hn : nxs st op dg s with
                              | none => rw [hn] at q; cases q
                              | some r =>
                                rw [hn] at q
                                obtain ⟨q1, q2⟩ : cm r.1 = c ∧ r.2 = (if s = 15 then op + 1 else if s = 16 then op - 1 else op) := by
                                  have q3 := Option.some.inj q
                                  exact ⟨congrArg (fun z => z.1) q3, congrArg (fun z => z.2) q3⟩
                                have q4 : r.2 = op - 1 := by rw [q2, if_neg (show ¬ s = 15 by omega), if_pos (show s = 16 by omega)]
                                have q5 := nx_le hst hop hn
                                rw [show flR (tx t) (nSaid t) (n + 1) j (st, op, dg) = flR (tx t) (nSaid t) n (j + 1) (r.1, r.2, dg + 1) from flR_s (by rw [e0, nx_eq, hn, Option.map_some, if_pos (by omega)])]
                                rw [← q1, ← q4]
                                exact ih (j + 1) r.1 r.2 (dg + 1) _ (by omega) q5.1 q5.2 (by omega) (fun z => nx_lo hst (by omega) hn)
                          · refine ⟨nI (op + 1), nI_add _ _, ?_⟩
                            refine br_ne rfl rfl (by omega) (by omega) (fun h70 => ?_) (fun h70 => ?_)
                            · refine ⟨nI (j + 1), nI_add _ _, ?_⟩
                              have q := nx_sb (st := st) (op := op) (dg := dg) (s := s) hst (by omega) (by omega) (by omega) (by omega) hop hs
                              rw [hb] at q
                              cases hn : nxs st op dg s with
                              | none => rw [hn] at q; cases q
                              | some r =>
                                rw [hn] at q
                                obtain ⟨q1, q2⟩ : cm r.1 = c ∧ r.2 = (if s = 15 then op + 1 else if s = 16 then op - 1 else op) := by
                                  have q3 := Option.some.inj q
                                  exact ⟨congrArg (fun z => z.1) q3, congrArg (fun z => z.2) q3⟩
                                have q4 : r.2 = op + 1 := by rw [q2, if_pos (show s = 15 by omega)]
                                have q5 := nx_le hst hop hn
                                rw [show flR (tx t) (nSaid t) (n + 1) j (st, op, dg) = flR (tx t) (nSaid t) n (j + 1) (r.1, r.2, dg + 1) from flR_s (by rw [e0, nx_eq, hn, Option.map_some, if_pos (by omega)])]
                                rw [← q1, ← q4]
                                exact ih (j + 1) r.1 r.2 (dg + 1) _ (by omega) q5.1 q5.2 (by omega) (fun z => nx_lo hst (by omega) hn)
                            · exact absurd h70 (by omega)
                        · exact absurd h61 (nI_m1 (by omega))
                      · refine ⟨?_, rfl⟩
                        rw [flR_n (q := (st, op, dg)) ?_]
                        rw [e0, nx_eq]
                        rw [nx_bad (by omega)]
                        rfl
                  · refine br_eq rfl rfl (by omega) (by omega) (fun h47 => ?_) (fun h47 => ?_)
                    · refine ⟨?_, rfl⟩
                      rw [flR_n (q := (st, op, dg)) ?_]
                      rw [e0, nx_eq]
                      rw [nx_bad (by omega)]
                      rfl
                    · refine br_ne rfl rfl (by omega) (by omega) (fun h50 => ?_) (fun h50 => ?_)
                      · have hv := cv_sb (σ := σ) (c := cm st) (s := s) (cmx_le hst) hs
                        rw [hb] at hv
                        refine ⟨_, _, hv, _, rfl, ?_⟩
                        refine ⟨fun h61 => ?_, fun h61 => ?_⟩
                        · refine br_ne rfl rfl (by omega) (by omega) (fun h66 => ?_) (fun h66 => ?_)
                          · refine br_ne rfl rfl (by omega) (by omega) (fun h70 => ?_) (fun h70 => ?_)
                            · refine ⟨nI (j + 1), nI_add _ _, ?_⟩
                              have q := nx_sb (st := st) (op := op) (dg := dg) (s := s) hst (by omega) (by omega) (by omega) (by omega) hop hs
                              rw [hb] at q
                              cases hn : nxs st op dg s with
                              | none => rw [hn] at q; cases q
                              | some r =>
                                rw [hn] at q
                                obtain ⟨q1, q2⟩ : cm r.1 = c ∧ r.2 = (if s = 15 then op + 1 else if s = 16 then op - 1 else op) := by
                                  have q3 := Option.some.inj q
                                  exact ⟨congrArg (fun z => z.1) q3, congrArg (fun z => z.2) q3⟩
                                have q4 : r.2 = op := by rw [q2, if_neg (show ¬ s = 15 by omega), if_neg (show ¬ s = 16 by omega)]
                                have q5 := nx_le hst hop hn
                                rw [show flR (tx t) (nSaid t) (n + 1) j (st, op, dg) = flR (tx t) (nSaid t) n (j + 1) (r.1, r.2, dg + 1) from flR_s (by rw [e0, nx_eq, hn, Option.map_some, if_pos (by omega)])]
                                rw [← q1, ← q4]
                                exact ih (j + 1) r.1 r.2 (dg + 1) _ (by omega) q5.1 q5.2 (by omega) (fun z => nx_lo hst (by omega) hn)
                            · refine ⟨nI (op - 1), (nI_decp (by omega)), nI (j + 1), nI_add _ _, ?_⟩
                              have q := nx_sb (st := st) (op := op) (dg := dg) (s := s) hst (by omega) (by omega) (by omega) (by omega) hop hs
                              rw [hb] at q
                              cases hn : nxs st op dg s with
                              | none => rw [hn] at q; cases q
                              | some r =>
                                rw [hn] at q
                                obtain ⟨q1, q2⟩ : cm r.1 = c ∧ r.2 = (if s = 15 then op + 1 else if s = 16 then op - 1 else op) := by
                                  have q3 := Option.some.inj q
                                  exact ⟨congrArg (fun z => z.1) q3, congrArg (fun z => z.2) q3⟩
                                have q4 : r.2 = op - 1 := by rw [q2, if_neg (show ¬ s = 15 by omega), if_pos (show s = 16 by omega)]
                                have q5 := nx_le hst hop hn
                                rw [show flR (tx t) (nSaid t) (n + 1) j (st, op, dg) = flR (tx t) (nSaid t) n (j + 1) (r.1, r.2, dg + 1) from flR_s (by rw [e0, nx_eq, hn, Option.map_some, if_pos (by omega)])]
                                rw [← q1, ← q4]
                                exact ih (j + 1) r.1 r.2 (dg + 1) _ (by omega) q5.1 q5.2 (by omega) (fun z => nx_lo hst (by omega) hn)
                          · refine ⟨nI (op + 1), nI_add _ _, ?_⟩
                            refine br_ne rfl rfl (by omega) (by omega) (fun h70 => ?_) (fun h70 => ?_)
                            · refine ⟨nI (j + 1), nI_add _ _, ?_⟩
                              have q := nx_sb (st := st) (op := op) (dg := dg) (s := s) hst (by omega) (by omega) (by omega) (by omega) hop hs
                              rw [hb] at q
                              cases hn : nxs st op dg s with
                              | none => rw [hn] at q; cases q
                              | some r =>
                                rw [hn] at q
                                obtain ⟨q1, q2⟩ : cm r.1 = c ∧ r.2 = (if s = 15 then op + 1 else if s = 16 then op - 1 else op) := by
                                  have q3 := Option.some.inj q
                                  exact ⟨congrArg (fun z => z.1) q3, congrArg (fun z => z.2) q3⟩
                                have q4 : r.2 = op + 1 := by rw [q2, if_pos (show s = 15 by omega)]
                                have q5 := nx_le hst hop hn
                                rw [show flR (tx t) (nSaid t) (n + 1) j (st, op, dg) = flR (tx t) (nSaid t) n (j + 1) (r.1, r.2, dg + 1) from flR_s (by rw [e0, nx_eq, hn, Option.map_some, if_pos (by omega)])]
                                rw [← q1, ← q4]
                                exact ih (j + 1) r.1 r.2 (dg + 1) _ (by omega) q5.1 q5.2 (by omega) (fun z => nx_lo hst (by omega) hn)
                            · exact absurd h70 (by omega)
                        · exact absurd h61 (nI_m1 (by omega))
                      · refine br_le rfl rfl (by omega) (by omega) (fun h52 => ?_) (fun h52 => ?_)
                        · have hv := cv_sb (σ := σ) (c := cm st) (s := s) (cmx_le hst) hs
                          rw [hb] at hv
                          refine ⟨_, _, hv, _, rfl, ?_⟩
                          refine ⟨fun h61 => ?_, fun h61 => ?_⟩
                          · refine br_ne rfl rfl (by omega) (by omega) (fun h66 => ?_) (fun h66 => ?_)
                            · refine br_ne rfl rfl (by omega) (by omega) (fun h70 => ?_) (fun h70 => ?_)
                              · refine ⟨nI (j + 1), nI_add _ _, ?_⟩
                                have q := nx_sb (st := st) (op := op) (dg := dg) (s := s) hst (by omega) (by omega) (by omega) (by omega) hop hs
                                rw [hb] at q
                                cases hn : nxs st op dg s with
                                | none => rw [hn] at q; cases q
                                | some r =>
                                  rw [hn] at q
                                  obtain ⟨q1, q2⟩ : cm r.1 = c ∧ r.2 = (if s = 15 then op + 1 else if s = 16 then op - 1 else op) := by
                                    have q3 := Option.some.inj q
                                    exact ⟨congrArg (fun z => z.1) q3, congrArg (fun z => z.2) q3⟩
                                  have q4 : r.2 = op := by rw [q2, if_neg (show ¬ s = 15 by omega), if_neg (show ¬ s = 16 by omega)]
                                  have q5 := nx_le hst hop hn
                                  rw [show flR (tx t) (nSaid t) (n + 1) j (st, op, dg) = flR (tx t) (nSaid t) n (j + 1) (r.1, r.2, dg + 1) from flR_s (by rw [e0, nx_eq, hn, Option.map_some, if_pos (by omega)])]
                                  rw [← q1, ← q4]
                                  exact ih (j + 1) r.1 r.2 (dg + 1) _ (by omega) q5.1 q5.2 (by omega) (fun z => nx_lo hst (by omega) hn)
                              · refine ⟨nI (op - 1), (nI_decp (by omega)), nI (j + 1), nI_add _ _, ?_⟩
                                have q := nx_sb (st := st) (op := op) (dg := dg) (s := s) hst (by omega) (by omega) (by omega) (by omega) hop hs
                                rw [hb] at q
                                cases hn : nxs st op dg s with
                                | none => rw [hn] at q; cases q
                                | some r =>
                                  rw [hn] at q
                                  obtain ⟨q1, q2⟩ : cm r.1 = c ∧ r.2 = (if s = 15 then op + 1 else if s = 16 then op - 1 else op) := by
                                    have q3 := Option.some.inj q
                                    exact ⟨congrArg (fun z => z.1) q3, congrArg (fun z => z.2) q3⟩
                                  have q4 : r.2 = op - 1 := by rw [q2, if_neg (show ¬ s = 15 by omega), if_pos (show s = 16 by omega)]
                                  have q5 := nx_le hst hop hn
                                  rw [show flR (tx t) (nSaid t) (n + 1) j (st, op, dg) = flR (tx t) (nSaid t) n (j + 1) (r.1, r.2, dg + 1) from flR_s (by rw [e0, nx_eq, hn, Option.map_some, if_pos (by omega)])]
                                  rw [← q1, ← q4]
                                  exact ih (j + 1) r.1 r.2 (dg + 1) _ (by omega) q5.1 q5.2 (by omega) (fun z => nx_lo hst (by omega) hn)
                            · refine ⟨nI (op + 1), nI_add _ _, ?_⟩
                              refine br_ne rfl rfl (by omega) (by omega) (fun h70 => ?_) (fun h70 => ?_)
                              · refine ⟨nI (j + 1), nI_add _ _, ?_⟩
                                have q := nx_sb (st := st) (op := op) (dg := dg) (s := s) hst (by omega) (by omega) (by omega) (by omega) hop hs
                                rw [hb] at q
                                cases hn : nxs st op dg s with
                                | none => rw [hn] at q; cases q
                                | some r =>
                                  rw [hn] at q
                                  obtain ⟨q1, q2⟩ : cm r.1 = c ∧ r.2 = (if s = 15 then op + 1 else if s = 16 then op - 1 else op) := by
                                    have q3 := Option.some.inj q
                                    exact ⟨congrArg (fun z => z.1) q3, congrArg (fun z => z.2) q3⟩
                                  have q4 : r.2 = op + 1 := by rw [q2, if_pos (show s = 15 by omega)]
                                  have q5 := nx_le hst hop hn
                                  rw [show flR (tx t) (nSaid t) (n + 1) j (st, op, dg) = flR (tx t) (nSaid t) n (j + 1) (r.1, r.2, dg + 1) from flR_s (by rw [e0, nx_eq, hn, Option.map_some, if_pos (by omega)])]
                                  rw [← q1, ← q4]
                                  exact ih (j + 1) r.1 r.2 (dg + 1) _ (by omega) q5.1 q5.2 (by omega) (fun z => nx_lo hst (by omega) hn)
                              · exact absurd h70 (by omega)
                          · exact absurd h61 (nI_m1 (by omega))
                        · refine ⟨?_, rfl⟩
                          rw [flR_n (q := (st, op, dg)) ?_]
                          rw [e0, nx_eq]
                          rw [nx_bad (by omega)]
                          rfl
                · refine ⟨?_, rfl⟩
                  rw [flR_n (q := (st, op, dg)) ?_]
                  rw [e0, nx_eq]
                  rw [nx_bad (by omega)]
                  rfl
            · refine ⟨nI (j + 1), nI_add _ _, ?_⟩
              rw [show flR (tx t) (nSaid t) (n + 1) j (st, op, dg) = flR (tx t) (nSaid t) n (j + 1) (st, op, dg + 1) from flR_s (by rw [e0, nx_eq, nx_dg (hd (by omega)).1 (hd (by omega)).2 (by omega) (by omega), if_pos (show dg < 3 by omega), Option.map_some, if_pos (show s < 10 by omega)])]
              exact ih (j + 1) st op (dg + 1) _ (by omega) hst hop (by omega) (fun _ => hd (by omega))
          · refine ⟨?_, rfl⟩
            rw [flR_n (q := (st, op, dg)) ?_]
            rw [e0, nx_eq]
            rw [nx_dg (hd (by omega)).1 (hd (by omega)).2 (by omega) (by omega), if_neg (show ¬ dg < 3 by omega)]
            rfl
theorem cv_fault {d : Bool} {s0 t : Sg} {D : Dy} {eb er : Nat} {Z : Zt} {σ : Sg} (hC : Cg d s0 t D eb er Z σ) (hX2 : TX t) : Ev false 138 [.inr (.inr (12, false, 0))] σ (some (.inl (fltR t))) σ := by
  refine Ev_wp 60 [8] rfl rfl ?_
  refine ⟨_, rfl, _, rfl, _, rfl, _, rfl, ?_⟩
  exact cv_fp_l hC hX2 (nSaid t) 0 0 0 0 none (by omega) (by omega) (by omega) (by omega) (fun q => absurd q (by omega))
