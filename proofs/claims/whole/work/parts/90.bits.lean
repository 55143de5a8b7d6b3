/-! Sites: the class. -/
def bcI (x : Int32) : Int32 := ((((((((x - ((ushr x (nI (1))) &&& (nI (1431655765)))) &&& (nI (858993459))) + ((ushr (x - ((ushr x (nI (1))) &&& (nI (1431655765)))) (nI (2))) &&& (nI (858993459)))) + (ushr (((x - ((ushr x (nI (1))) &&& (nI (1431655765)))) &&& (nI (858993459))) + ((ushr (x - ((ushr x (nI (1))) &&& (nI (1431655765)))) (nI (2))) &&& (nI (858993459)))) (nI (4)))) &&& (nI (252645135))) + (ushr (((((x - ((ushr x (nI (1))) &&& (nI (1431655765)))) &&& (nI (858993459))) + ((ushr (x - ((ushr x (nI (1))) &&& (nI (1431655765)))) (nI (2))) &&& (nI (858993459)))) + (ushr (((x - ((ushr x (nI (1))) &&& (nI (1431655765)))) &&& (nI (858993459))) + ((ushr (x - ((ushr x (nI (1))) &&& (nI (1431655765)))) (nI (2))) &&& (nI (858993459)))) (nI (4)))) &&& (nI (252645135))) (nI (8)))) + (ushr ((((((x - ((ushr x (nI (1))) &&& (nI (1431655765)))) &&& (nI (858993459))) + ((ushr (x - ((ushr x (nI (1))) &&& (nI (1431655765)))) (nI (2))) &&& (nI (858993459)))) + (ushr (((x - ((ushr x (nI (1))) &&& (nI (1431655765)))) &&& (nI (858993459))) + ((ushr (x - ((ushr x (nI (1))) &&& (nI (1431655765)))) (nI (2))) &&& (nI (858993459)))) (nI (4)))) &&& (nI (252645135))) + (ushr (((((x - ((ushr x (nI (1))) &&& (nI (1431655765)))) &&& (nI (858993459))) + ((ushr (x - ((ushr x (nI (1))) &&& (nI (1431655765)))) (nI (2))) &&& (nI (858993459)))) + (ushr (((x - ((ushr x (nI (1))) &&& (nI (1431655765)))) &&& (nI (858993459))) + ((ushr (x - ((ushr x (nI (1))) &&& (nI (1431655765)))) (nI (2))) &&& (nI (858993459)))) (nI (4)))) &&& (nI (252645135))) (nI (8)))) (nI (16)))) &&& (nI (63)))
theorem cv_bc0 {σ : Sg} {x : Int32} : Ev false 62 [.inl x] σ (some (.inl (bcI x))) σ := by
  refine Ev_wp 60 [] rfl rfl ?_
  refine ⟨_, rfl, _, rfl, _, rfl, _, rfl, _, rfl, ?_⟩
  exact ⟨rfl, rfl⟩
theorem bc_ok : ∀ a, a < 64 → ∀ b, b < 64 → bcI (nI (64 * a + b)) = nI (popN (64 * a + b) 12) := by decide +kernel
theorem popN_hi {s n : Nat} (h : s < 2 ^ n) : ∀ m, n ≤ m → popN s m = popN s n
  | m, hm => by
    obtain ⟨d, rfl⟩ : ∃ d, m = n + d := ⟨m - n, by omega⟩
    clear hm
    induction d with
    | zero => rfl
    | succ d ih =>
      rw [show n + (d + 1) = (n + d) + 1 by omega, popN_S, ih, Nat.div_eq_of_lt (Nat.lt_of_lt_of_le h (Nat.pow_le_pow_right (by decide) (by omega))), Nat.zero_mod, Nat.add_zero]
theorem cv_bc {σ : Sg} {s n : Nat} (hs : s < 2 ^ n) (hn : n ≤ 12) : Ev false 62 [.inl (nI s)] σ (some (.inl (nI (popN s n)))) σ := by
  have h4096 : s < 4096 := Nat.lt_of_lt_of_le hs (Nat.pow_le_pow_right (by decide) hn)
  have h := cv_bc0 (σ := σ) (x := nI s)
  rw [show s = 64 * (s / 64) + s % 64 by omega, bc_ok (s / 64) (by omega) (s % 64) (by omega), show 64 * (s / 64) + s % 64 = s by omega, popN_hi hs 12 hn] at h
  exact h
theorem mAbs_neg (x : Int32) : mAbs (-x) = mAbs x := by
  have h1 := x.toInt_lt
  have h2 := x.le_toInt
  by_cases e : x.toInt = -2147483648
  · rw [show -x = x from Int32.toInt_inj.mp (by rw [Int32.toInt_neg, e]; rfl)]
  · have e2 : (-x).toInt = -x.toInt := by rw [Int32.toInt_neg, Int.bmod_eq_of_le (by omega) (by omega)]
    unfold mAbs
    have z : (0 : Int32).toInt = 0 := rfl
    rw [Int32.zero_sub, Int32.zero_sub]
    by_cases c : 0 ≤ x.toInt
    · rw [if_pos (c := 0 ≤ x) (by rw [Int32.le_iff_toInt_le, z]; exact c)]
      by_cases c2 : 0 ≤ -x.toInt
      · rw [if_pos (c := 0 ≤ -x) (by rw [Int32.le_iff_toInt_le, z, e2]; exact c2)]
        exact Int32.toInt_inj.mp (by omega)
      · rw [if_neg (c := 0 ≤ -x) (by rw [Int32.le_iff_toInt_le, z, e2]; exact c2), Int32.neg_neg]
    · rw [if_neg (c := 0 ≤ x) (by rw [Int32.le_iff_toInt_le, z]; exact c), if_pos (c := 0 ≤ -x) (by rw [Int32.le_iff_toInt_le, z, e2]; omega)]
theorem mAbs_sub (a b : Int32) : mAbs (a - b) = mAbs (b - a) := by
  rw [← mAbs_neg (b - a), Int32.neg_sub]
