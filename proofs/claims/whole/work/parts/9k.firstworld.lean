/-! The first worlds go together. -/
theorem sC_z {k i j : Nat} {d : Bool} (h : ¬ (k = 1 ∨ k = 10 ∨ k = 11 ∨ k = 26 ∨ k = 37 ∨ k = 44)) : sC k d i j = nI 0 := by
  have e : ∀ n, (n = 1 ∨ n = 10 ∨ n = 11 ∨ n = 26 ∨ n = 37 ∨ n = 44) → Nat.beq k n = false := fun n hn => by
    cases q : Nat.beq k n with
    | false => rfl
    | true => exact absurd (by have := Nat.eq_of_beq_eq_true q; omega) h
  unfold sC
  rw [e 1 (by omega), e 10 (by omega), e 11 (by omega), e 26 (by omega), e 37 (by omega), e 44 (by omega)]
  rfl
theorem tM0_80 {i : Nat} (h : i < 4) : tM0 80 false 0 i = 20 ∧ tM0 81 false 0 i = 5 := by
  rcases (show i = 0 ∨ i = 1 ∨ i = 2 ∨ i = 3 by omega) with rfl | rfl | rfl | rfl <;> exact ⟨rfl, rfl⟩
theorem sC_TR : TR sC tM0 := by
  intro k r i k' j h
  have gen : ∀ {c : Prop} [Decidable c] {a b : Nat} {X : Option (Nat × Nat)}, (if c then some (a, b) else X) = some (k', j) → (c ∧ a = k' ∧ b = j) ∨ (¬ c ∧ X = some (k', j)) := by
    intro c _ a b X h
    by_cases q : c
    · rw [if_pos q] at h
      cases h
      exact Or.inl ⟨q, rfl, rfl⟩
    · rw [if_neg q] at h
      exact Or.inr ⟨q, h⟩
  have z : ∀ {k' j : Nat}, ¬ k' = 80 → ¬ k' = 81 → ¬ (k' = 69 ∧ (j = 16 ∨ j = 17)) → ¬ (k = 1 ∨ k = 10 ∨ k = 11 ∨ k = 26 ∨ k = 37 ∨ k = 44) → sC k false r i = tM0 k' false 0 j := fun a b c d => (sC_z d).trans (tM0_z false 0 a b c).symm
  unfold mp at h
  split at h
  · rcases gen h with ⟨⟨rfl, rfl⟩, rfl, rfl⟩ | ⟨-, h⟩
    · exact (tM0_z false 0 (by decide) (by decide) (by decide)).symm
    rcases gen h with ⟨⟨rfl, rfl⟩, rfl, rfl⟩ | ⟨-, h⟩
    · exact (tM0_z false 0 (by decide) (by decide) (by decide)).symm
    rcases gen h with ⟨⟨rfl, rfl⟩, rfl, rfl⟩ | ⟨-, h⟩
    · exact (tM0_z false 0 (by decide) (by decide) (by decide)).symm
    rcases gen h with ⟨⟨rfl, rfl⟩, rfl, rfl⟩ | ⟨-, h⟩
    · exact (tM0_n (k := 69) (j := 16) false 0 (by decide) (by decide)).symm
    rcases gen h with ⟨⟨rfl, rfl⟩, rfl, rfl⟩ | ⟨-, h⟩
    · exact (tM0_n (k := 69) (j := 17) false 0 (by decide) (by decide)).symm
    cases h
  all_goals first
    | (cases h; done)
    | (rcases gen h with ⟨⟨rfl, hi⟩, rfl, rfl⟩ | ⟨-, h⟩
       · first
           | exact z (by omega) (by omega) (by omega) (by omega)
           | exact ((show sC 10 false 0 i = if i < 4 then 20 else 0 from rfl).trans (if_pos hi)).trans (tM0_80 hi).1.symm
           | exact ((show sC 11 false 0 i = if i < 4 then 5 else 0 from rfl).trans (if_pos hi)).trans (tM0_80 hi).2.symm
       cases h)
    | (rcases gen h with ⟨⟨rfl, hi⟩, rfl, rfl⟩ | ⟨-, h⟩
       · exact z (by omega) (by omega) (by omega) (by omega)
       rcases gen h with ⟨⟨rfl, hi⟩, rfl, rfl⟩ | ⟨-, h⟩
       · exact z (by omega) (by omega) (by omega) (by omega)
       cases h)
    | (rcases gen h with ⟨hr, rfl, rfl⟩ | ⟨-, h⟩
       · exact z (by omega) (by omega) (by omega) (by omega)
       cases h)
theorem tM0_n0 (j : Nat) (h : ¬ (j = 16 ∨ j = 17)) : nN (tM0 69 false 0 j) = 0 := by
  rw [tM0_z false 0 (by decide) (by decide) (fun q => h q.2)]
  exact nN_nI (by decide)
theorem eP0 : nP tM0 = 0 := tM0_n0 3 (by decide)
theorem eB0 : nB tM0 = 0 := tM0_n0 7 (by decide)
theorem eR0 : nR tM0 = 0 := tM0_n0 9 (by decide)
theorem eH0 : nH tM0 = 0 := tM0_n0 18 (by decide)
theorem eRu0 : nRu tM0 = 0 := tM0_n0 22 (by decide)
theorem eTe0 : nTe tM0 = 0 := tM0_n0 38 (by decide)
theorem nX {n k : Nat} (h : k < n) (e : n = 0) : False := by omega
theorem KV0 : KV tM0 (bgn tM0 tD0) := by
  have is9 : ∀ {k j m : Nat}, m < 2147483648 → 82 ≤ k → Is (tM0 k false 0 j) m := fun hm hk => tM0_is hm (by omega) (by omega) (by omega)
  have i69 : ∀ {j m : Nat}, m < 2147483648 → ¬ (j = 16 ∨ j = 17) → Is (tM0 69 false 0 j) m := fun hm hj => tM0_is hm (by decide) (by decide) (fun q => hj q.2)
  refine ⟨⟨tM0_WN, fun p hp => (nX hp eP0).elim, fun r hr => (nX hr eR0).elim, ⟨i69 (by decide) (by decide), fun k hk => ⟨is9 (by decide) (by decide), fun i hi => is9 (by decide) (by decide)⟩⟩, fun k hk => (nX hk eRu0).elim⟩,
    ⟨i69 (by decide) (by decide), fun i hi => is9 (by decide) (by decide)⟩, ⟨fun b hb => (nX hb eB0).elim, fun p hp => (nX hp eP0).elim⟩, fun k hk => (nX hk eRu0).elim,
    ⟨⟨i69 (by decide) (by decide), fun i hi => (nX hi eH0).elim⟩, fun i j _ hj => (nX hj eH0).elim, fun i hi => (nX hi eH0).elim⟩,
    ⟨i69 (by decide) (by decide), ⟨i69 (by decide) (by decide), i69 (by decide) (by decide)⟩, ⟨i69 (by decide) (by decide), fun k hk => (nX hk eTe0).elim⟩, fun p hp h => absurd (tM0_z false 0 (by decide) (by decide) (by omega)) h⟩,
    fun _ => ⟨fun p hp => bgn_p hp, fun b hb => (nX hb eB0).elim⟩, fun p hp => ?_⟩
  exact S3_bgn p hp
/-- the two first worlds answer alike -/
theorem INV0 {τ : Sg} (hA : Ag tM0 (bgn tM0 tD0) τ) : INV sC τ := by
  refine ⟨tM0, bgn tM0 tD0, (fun _ _ => nI 0, fun _ => nI 0, -1), hA, CK_of (bgn_DK tM0_WN (fun b hb => (nX hb eB0).elim) (fun k hk => (nX hk eRu0).elim) (Cg_bgn sC_TR tM0_WN ⟨Fr_rf _ _, ⟨rfl, rfl, rfl⟩, fun p hp => (nX hp eP0).elim, fun b hb => (nX hb eB0).elim, fun r w hr => (nX hr eR0).elim⟩ ⟨rfl, rfl, rfl, rfl⟩ ⟨rfl, rfl⟩ (fun p y _ _ => ⟨sC_z (by omega), sC_z (by omega), sC_z (by omega), sC_z (by omega)⟩) (fun p _ => sC_z (by omega)))) (fun k hk => (nX hk eRu0).elim) rfl rfl, KV0⟩
