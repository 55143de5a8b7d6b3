/-! The class's answers: the van. -/
theorem cv_van {s t : Sg} {D : Dy} {Z : Zt} {σ : Sg} (hK : DK false s t D Z σ) {x : Int32} : Ev false 42 [.inr (.inr (0, false, 0)), .inl x] σ (some (.inl (vanR D x))) σ := by
  have hC := hK.1
  refine Ev_wp 60 [] rfl rfl ?_
  refine ⟨fun h1 => ?_, fun h1 => ?_, fun h1 => ?_, fun h1 => ?_, ?_⟩
  · exact ⟨congrArg (fun z => some (Sum.inl z)) (hC.v.1.trans (show D 0 2 = vanR D x from by unfold vanR; rw [ifC_t h1])), rfl⟩
  · exact ⟨congrArg (fun z => some (Sum.inl z)) (hC.v.2.1.trans (show D 0 3 = vanR D x from by unfold vanR; rw [ifC_f (by rw [h1]; decide), ifC_t h1])), rfl⟩
  · exact ⟨congrArg (fun z => some (Sum.inl z)) (hC.v.2.2.2.1.trans (show D 0 5 = vanR D x from by unfold vanR; rw [ifC_f (by rw [h1]; decide), ifC_f (by rw [h1]; decide), ifC_t h1])), rfl⟩
  · exact ⟨congrArg (fun z => some (Sum.inl z)) (hC.v.2.2.1.trans (show D 0 6 = vanR D x from by unfold vanR; rw [ifC_f (by rw [h1]; decide), ifC_f (by rw [h1]; decide), ifC_f (by rw [h1]; decide), ifC_t h1])), rfl⟩
  · intro h1
    exact ⟨by unfold vanR; rw [ifC_f h1.1, ifC_f h1.2.1, ifC_f h1.2.2.1, ifC_f h1.2.2.2.1], rfl⟩
theorem cv_wayt {s t : Sg} {D : Dy} {Z : Zt} {σ : Sg} (hK : DK false s t D Z σ) (hT : WN t) {x y : Int32} : Ev false 144 [.inr (.inr (0, false, 0)), .inl x, .inl y] σ (some (.inl (wayR t x y))) σ := by
  have hC := hK.1
  have hP := hT.P
  refine Ev_wp 60 [] rfl rfl ?_
  refine ⟨_, _, cv_isPost (hC.c1_0.trans hT.1.1) (by omega), ?_⟩
  refine brd_eq (fun h4 => ?_) (fun h4 => ?_)
  · exact ⟨by unfold wayR; rw [ifC_f (fun q => h4 q.1)], rfl⟩
  · refine ⟨_, _, cv_isPost (hC.c1_0.trans hT.1.1) (by omega), ?_⟩
    refine brd_eq (fun h9 => ?_) (fun h9 => ?_)
    · exact ⟨by unfold wayR; rw [ifC_f (fun q => h9 q.2)], rfl⟩
    · have q1 := isPo_n hT h4
      have q2 := isPo_n hT h9
      refine ⟨_, _, cv_way hC hT q1.1 (by omega) q2.1 (by omega), ?_⟩
      exact ⟨by unfold wayR; rw [ifC_t ⟨h4, h9⟩], rfl⟩
