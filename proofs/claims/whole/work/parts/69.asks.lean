/-! The class's answers: the van. -/
theorem cv_van {s t : Sg} {D : Dy} {Z : Zt} {σ : Sg} (hK : DK false s t D Z σ) {x : Int32} : Ev false 42 [.inr (.inr (0, false, 0)), .inl x] σ (some (.inl (vanR D x))) σ := by
  have hC := hK.1
  refine Ev_wp 60 [] rfl rfl ?_
  refine ⟨fun h1 => ?_, fun h1 => ?_, fun h1 => ?_, fun h1 => ?_, ?_⟩
  · exact ⟨congrArg (fun z => some (Sum.inl z)) (hC.v.1.trans (show D 0 2 = vanR D x from by unfold vanR; rw [ifC_t h1])), rfl⟩
  · exact ⟨congrArg (fun z => some (Sum.inl z)) (hC.v.2.1.trans (show D 0 3 = vanR D x from by unfold vanR; rw [ifC_f (by rw [h1]; decide), ifC_t h1])), rfl⟩
  · exact ⟨congrArg (fun z => some (Sum.inl z)) (hC.v.2.2.2.1.trans (show D 0 5 = vanR D x from by unfold vanR; rw [ifC_f (by rw [h1]; decide), ifC_f (by rw [h1]; decide), ifC_t h1])), rfl⟩
  · exact ⟨congrArg (fun z => some (Sum.inl z)) (hC.v.2.2.1.trans (show D 0 6 = vanR D x from by unfold vanR; rw [ifC_f (by rw [h1]; decide), ifC_f (by rw [h1]; decide), ifC_f (by rw [h1]; decide), ifC_t h1])), rfl⟩
  · intro h1
    exact ⟨by unfold vanR; rw [ifC_f h1.1, ifC_f h1.2.1, ifC_f h1.2.2.1, ifC_f h1.2.2.2.1], rfl⟩
