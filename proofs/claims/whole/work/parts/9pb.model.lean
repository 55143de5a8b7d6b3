/-! The model's maker, whole. -/
theorem k_Model (l : Launch) (D : va_G) (cs : Cs) (h0 sz : Nat) : Kt l ⟨"BikeTownModel", "<init>", "()V"⟩ prog_14_method_1_code 2 [] D cs h0 sz (12, dfS 50 tyX12) 3 35 57140 (fun w1 => ∃ (a : Ad) (τ : Sg), a 69 false 0 = h0 ∧ Ag tM0 (bgn tM0 tD0) τ ∧ w1 = conc true cs a τ) := sorry
