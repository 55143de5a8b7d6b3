/-! The class beside the model: what was told. -/
/-- a cell of the class, and the model's cell that holds the same -/
def mp (k r i : Nat) : Option (Nat × Nat) := match k with
  | 1 => if r = 0 ∧ i = 0 then some (69, 3) else if r = 0 ∧ i = 1 then some (69, 7) else if r = 0 ∧ i = 2 then some (69, 9) else if r = 0 ∧ i = 3 then some (69, 16) else if r = 0 ∧ i = 4 then some (69, 17) else none
  | 2 => if r = 0 ∧ i < 12 then some (72, i) else none
  | 3 => if r = 0 ∧ i < 12 then some (73, i) else none
  | 4 => if r = 0 ∧ i < 12 then some (74, i) else none
  | 5 => if r = 0 ∧ i < 60 then some (75, i) else none
  | 6 => if r = 0 ∧ i < 200 then some (76, i) else none
  | 7 => if r = 0 ∧ i < 200 then some (77, i) else none
  | 8 => if r = 0 ∧ i < 200 then some (78, i) else none
  | 9 => if r = 0 ∧ i < 200 then some (79, i) else none
  | 10 => if r = 0 ∧ i < 4 then some (80, i) else none
  | 11 => if r = 0 ∧ i < 4 then some (81, i) else none
  | 12 => if r = 0 ∧ i = 1 then some (69, 20) else if r = 0 ∧ i = 2 then some (69, 22) else none
  | 13 => if r = 0 ∧ i < 40 then some (83, i) else none
  | 14 => if 1 ≤ r ∧ r ≤ 10 ∧ i < 40 then some (85, 40 * (r - 1) + i) else none
  | 15 => if r = 0 ∧ i < 10 then some (84, i) else none
  | 21 => if r = 0 ∧ i = 0 then some (69, 18) else none
  | 22 => if r = 0 ∧ i < 200 then some (82, 4 * i) else none
  | 23 => if r = 0 ∧ i < 200 then some (82, 4 * i + 1) else none
  | 24 => if r = 0 ∧ i < 200 then some (82, 4 * i + 2) else none
  | 25 => if r = 0 ∧ i < 200 then some (82, 4 * i + 3) else none
  | 48 => if r = 0 ∧ i = 0 then some (69, 26) else none
  | 49 => if r = 0 ∧ i < 20 then some (87, i) else none
  | 50 => if 1 ≤ r ∧ r ≤ 20 ∧ i < 288 then some (88, 288 * (r - 1) + i) else none
  | 52 => if r = 0 ∧ i < 12 then some (89, i) else none
  | 57 => if 1 ≤ r ∧ r ≤ 2 ∧ i < 25 then some (90, 25 * (r - 1) + i) else none
  | 59 => if r = 0 ∧ i = 0 then some (69, 31) else if r = 0 ∧ i = 1 then some (69, 34) else none
  | 60 => if r = 0 ∧ i < 12 then some (91, i) else none
  | 61 => if r = 0 ∧ i < 12 then some (92, i) else none
  | 62 => if r = 0 ∧ i < 40 then some (93, i) else none
  | 63 => if r = 0 ∧ i < 40 then some (94, i) else none
  | 64 => if r = 0 ∧ i < 40 then some (95, i) else none
  | 66 => if r = 0 ∧ i = 0 then some (69, 38) else none
  | 67 => if r = 0 ∧ i < 60 then some (96, i) else none
  | 68 => if r = 0 ∧ i < 60 then some (97, i) else none
  | _ => none
def ip (k j : Nat) : Nat × Nat × Nat := match k with
  | 69 => if j = 3 then (1, 0, 0) else if j = 7 then (1, 0, 1) else if j = 9 then (1, 0, 2) else if j = 16 then (1, 0, 3) else if j = 17 then (1, 0, 4) else if j = 18 then (21, 0, 0) else if j = 20 then (12, 0, 1) else if j = 22 then (12, 0, 2) else if j = 26 then (48, 0, 0) else if j = 31 then (59, 0, 0) else if j = 34 then (59, 0, 1) else if j = 38 then (66, 0, 0) else (0, 0, 0)
  | 72 => (2, 0, j)
  | 73 => (3, 0, j)
  | 74 => (4, 0, j)
  | 75 => (5, 0, j)
  | 76 => (6, 0, j)
  | 77 => (7, 0, j)
  | 78 => (8, 0, j)
  | 79 => (9, 0, j)
  | 80 => (10, 0, j)
  | 81 => (11, 0, j)
  | 82 => (22 + j % 4, 0, j / 4)
  | 83 => (13, 0, j)
  | 84 => (15, 0, j)
  | 85 => (14, j / 40 + 1, j % 40)
  | 87 => (49, 0, j)
  | 88 => (50, j / 288 + 1, j % 288)
  | 89 => (52, 0, j)
  | 90 => (57, j / 25 + 1, j % 25)
  | 91 => (60, 0, j)
  | 92 => (61, 0, j)
  | 93 => (62, 0, j)
  | 94 => (63, 0, j)
  | 95 => (64, 0, j)
  | 96 => (67, 0, j)
  | 97 => (68, 0, j)
  | _ => (0, 0, 0)
theorem mp_ip {k r i k' j : Nat} (h : mp k r i = some (k', j)) : ip k' j = (k, r, i) := by
  unfold mp at h
  split at h
  · repeat' split at h
    all_goals first | (cases h; done) | (rename_i hc; cases h; obtain ⟨rfl, rfl⟩ := hc; rfl) | (cases h; simp_all [ip])
  · split at h
    next hc => cases h; obtain ⟨rfl, -⟩ := hc; rfl
    next => cases h
  · split at h
    next hc => cases h; obtain ⟨rfl, -⟩ := hc; rfl
    next => cases h
  · split at h
    next hc => cases h; obtain ⟨rfl, -⟩ := hc; rfl
    next => cases h
  · split at h
    next hc => cases h; obtain ⟨rfl, -⟩ := hc; rfl
    next => cases h
  · split at h
    next hc => cases h; obtain ⟨rfl, -⟩ := hc; rfl
    next => cases h
  · split at h
    next hc => cases h; obtain ⟨rfl, -⟩ := hc; rfl
    next => cases h
  · split at h
    next hc => cases h; obtain ⟨rfl, -⟩ := hc; rfl
    next => cases h
  · split at h
    next hc => cases h; obtain ⟨rfl, -⟩ := hc; rfl
    next => cases h
  · split at h
    next hc => cases h; obtain ⟨rfl, -⟩ := hc; rfl
    next => cases h
  · split at h
    next hc => cases h; obtain ⟨rfl, -⟩ := hc; rfl
    next => cases h
  · repeat' split at h
    all_goals first | (cases h; done) | (rename_i hc; cases h; obtain ⟨rfl, rfl⟩ := hc; rfl) | (cases h; simp_all [ip])
  · split at h
    next hc => cases h; obtain ⟨rfl, -⟩ := hc; rfl
    next => cases h
  · split at h
    next hc =>
      cases h
      show (14, (40 * (r - 1) + i) / 40 + 1, (40 * (r - 1) + i) % 40) = (14, r, i)
      rw [Nat.mul_add_div (by decide), Nat.mul_add_mod, Nat.div_eq_of_lt hc.2.2, Nat.mod_eq_of_lt hc.2.2, Nat.add_zero, Nat.sub_add_cancel hc.1]
    next => cases h
  · split at h
    next hc => cases h; obtain ⟨rfl, -⟩ := hc; rfl
    next => cases h
  · repeat' split at h
    all_goals first | (cases h; done) | (rename_i hc; cases h; obtain ⟨rfl, rfl⟩ := hc; rfl) | (cases h; simp_all [ip])
  · split at h
    next hc =>
      cases h
      obtain ⟨rfl, -⟩ := hc
      show (22 + (4 * i) % 4, 0, (4 * i) / 4) = (22, 0, i)
      rw [show (4 * i) % 4 = 0 by omega, show (4 * i) / 4 = i by omega]
    next => cases h
  · split at h
    next hc =>
      cases h
      obtain ⟨rfl, -⟩ := hc
      show (22 + (4 * i + 1) % 4, 0, (4 * i + 1) / 4) = (23, 0, i)
      rw [show (4 * i + 1) % 4 = 1 by omega, show (4 * i + 1) / 4 = i by omega]
    next => cases h
  · split at h
    next hc =>
      cases h
      obtain ⟨rfl, -⟩ := hc
      show (22 + (4 * i + 2) % 4, 0, (4 * i + 2) / 4) = (24, 0, i)
      rw [show (4 * i + 2) % 4 = 2 by omega, show (4 * i + 2) / 4 = i by omega]
    next => cases h
  · split at h
    next hc =>
      cases h
      obtain ⟨rfl, -⟩ := hc
      show (22 + (4 * i + 3) % 4, 0, (4 * i + 3) / 4) = (25, 0, i)
      rw [show (4 * i + 3) % 4 = 3 by omega, show (4 * i + 3) / 4 = i by omega]
    next => cases h
  · repeat' split at h
    all_goals first | (cases h; done) | (rename_i hc; cases h; obtain ⟨rfl, rfl⟩ := hc; rfl) | (cases h; simp_all [ip])
  · split at h
    next hc => cases h; obtain ⟨rfl, -⟩ := hc; rfl
    next => cases h
  · split at h
    next hc =>
      cases h
      show (50, (288 * (r - 1) + i) / 288 + 1, (288 * (r - 1) + i) % 288) = (50, r, i)
      rw [Nat.mul_add_div (by decide), Nat.mul_add_mod, Nat.div_eq_of_lt hc.2.2, Nat.mod_eq_of_lt hc.2.2, Nat.add_zero, Nat.sub_add_cancel hc.1]
    next => cases h
  · split at h
    next hc => cases h; obtain ⟨rfl, -⟩ := hc; rfl
    next => cases h
  · split at h
    next hc =>
      cases h
      show (57, (25 * (r - 1) + i) / 25 + 1, (25 * (r - 1) + i) % 25) = (57, r, i)
      rw [Nat.mul_add_div (by decide), Nat.mul_add_mod, Nat.div_eq_of_lt hc.2.2, Nat.mod_eq_of_lt hc.2.2, Nat.add_zero, Nat.sub_add_cancel hc.1]
    next => cases h
  · repeat' split at h
    all_goals first | (cases h; done) | (rename_i hc; cases h; obtain ⟨rfl, rfl⟩ := hc; rfl) | (cases h; simp_all [ip])
  · split at h
    next hc => cases h; obtain ⟨rfl, -⟩ := hc; rfl
    next => cases h
  · split at h
    next hc => cases h; obtain ⟨rfl, -⟩ := hc; rfl
    next => cases h
  · split at h
    next hc => cases h; obtain ⟨rfl, -⟩ := hc; rfl
    next => cases h
  · split at h
    next hc => cases h; obtain ⟨rfl, -⟩ := hc; rfl
    next => cases h
  · split at h
    next hc => cases h; obtain ⟨rfl, -⟩ := hc; rfl
    next => cases h
  · repeat' split at h
    all_goals first | (cases h; done) | (rename_i hc; cases h; obtain ⟨rfl, rfl⟩ := hc; rfl) | (cases h; simp_all [ip])
  · split at h
    next hc => cases h; obtain ⟨rfl, -⟩ := hc; rfl
    next => cases h
  · split at h
    next hc => cases h; obtain ⟨rfl, -⟩ := hc; rfl
    next => cases h
  · cases h
/-- what was told: the class holds it as the model does -/
def TR (s t : Sg) : Prop := ∀ k r i k' j, mp k r i = some (k', j) → s k false r i = t k' false 0 j
theorem TR_w {s t : Sg} (h : TR s t) {k r i k' j : Nat} (hm : mp k r i = some (k', j)) (v : Int32) : TR (up4 s k false r i v) (up4 t k' false 0 j v) := by
  intro k2 r2 i2 k3 j2 hm2
  unfold up4
  by_cases e : k2 = k ∧ r2 = r ∧ i2 = i
  · obtain ⟨rfl, rfl, rfl⟩ := e
    rw [hm] at hm2
    cases hm2
    rw [if_pos ⟨rfl, rfl, rfl, rfl⟩, if_pos ⟨rfl, rfl, rfl, rfl⟩]
  · rw [if_neg (fun q => e ⟨q.1, q.2.2.1, q.2.2.2⟩), if_neg (fun q => ?_)]
    · exact h k2 r2 i2 k3 j2 hm2
    · have h1 := mp_ip hm
      have h2 := mp_ip hm2
      rw [q.1, q.2.2.2, h1] at h2
      cases h2
      exact e ⟨rfl, rfl, rfl⟩
theorem TR_s {s t : Sg} (h : TR s t) {k i r : Nat} {d : Bool} {v : Int32} (hm : mp k r i = none ∨ d = true) : TR (up4 s k d r i v) t := by
  intro k2 r2 i2 k3 j2 hm2
  unfold up4
  rw [if_neg (fun q => ?_)]
  · exact h k2 r2 i2 k3 j2 hm2
  · rcases hm with hm | hm
    · rw [q.1, q.2.2.1, q.2.2.2, hm] at hm2
      cases hm2
    · rw [hm] at q
      exact absurd q.2.1 (by decide)
theorem TR_t {s t t' : Sg} (h : TR s t) (e : ∀ k j, (¬ k = 70 ∧ ¬ k = 71 ∧ ¬ k = 86 ∧ ¬ (98 ≤ k ∧ k ≤ 104)) → t' k false 0 j = t k false 0 j) : TR s t' := by
  intro k r i k' j hm
  rw [h k r i k' j hm, e k' j]
  unfold mp at hm
  split at hm
  all_goals (repeat' split at hm)
  all_goals first | (cases hm; done) | (cases hm; decide)
theorem TR.c1_0 {s t : Sg} (h : TR s t) : s 1 false 0 0 = t 69 false 0 3 := h 1 0 0 69 3 rfl
theorem TR.c1_1 {s t : Sg} (h : TR s t) : s 1 false 0 1 = t 69 false 0 7 := h 1 0 1 69 7 rfl
theorem TR.c1_2 {s t : Sg} (h : TR s t) : s 1 false 0 2 = t 69 false 0 9 := h 1 0 2 69 9 rfl
theorem TR.c1_3 {s t : Sg} (h : TR s t) : s 1 false 0 3 = t 69 false 0 16 := h 1 0 3 69 16 rfl
theorem TR.c1_4 {s t : Sg} (h : TR s t) : s 1 false 0 4 = t 69 false 0 17 := h 1 0 4 69 17 rfl
theorem TR.c12_1 {s t : Sg} (h : TR s t) : s 12 false 0 1 = t 69 false 0 20 := h 12 0 1 69 20 rfl
theorem TR.c12_2 {s t : Sg} (h : TR s t) : s 12 false 0 2 = t 69 false 0 22 := h 12 0 2 69 22 rfl
theorem TR.c21_0 {s t : Sg} (h : TR s t) : s 21 false 0 0 = t 69 false 0 18 := h 21 0 0 69 18 rfl
theorem TR.c48_0 {s t : Sg} (h : TR s t) : s 48 false 0 0 = t 69 false 0 26 := h 48 0 0 69 26 rfl
theorem TR.c59_0 {s t : Sg} (h : TR s t) : s 59 false 0 0 = t 69 false 0 31 := h 59 0 0 69 31 rfl
theorem TR.c59_1 {s t : Sg} (h : TR s t) : s 59 false 0 1 = t 69 false 0 34 := h 59 0 1 69 34 rfl
theorem TR.c66_0 {s t : Sg} (h : TR s t) : s 66 false 0 0 = t 69 false 0 38 := h 66 0 0 69 38 rfl
theorem TR.c2 {s t : Sg} (h : TR s t) (i : Nat) (hi : i < 12) : s 2 false 0 i = t 72 false 0 i := h 2 0 i 72 i (if_pos ⟨rfl, hi⟩)
theorem TR.c3 {s t : Sg} (h : TR s t) (i : Nat) (hi : i < 12) : s 3 false 0 i = t 73 false 0 i := h 3 0 i 73 i (if_pos ⟨rfl, hi⟩)
theorem TR.c4 {s t : Sg} (h : TR s t) (i : Nat) (hi : i < 12) : s 4 false 0 i = t 74 false 0 i := h 4 0 i 74 i (if_pos ⟨rfl, hi⟩)
theorem TR.c5 {s t : Sg} (h : TR s t) (i : Nat) (hi : i < 60) : s 5 false 0 i = t 75 false 0 i := h 5 0 i 75 i (if_pos ⟨rfl, hi⟩)
theorem TR.c6 {s t : Sg} (h : TR s t) (i : Nat) (hi : i < 200) : s 6 false 0 i = t 76 false 0 i := h 6 0 i 76 i (if_pos ⟨rfl, hi⟩)
theorem TR.c7 {s t : Sg} (h : TR s t) (i : Nat) (hi : i < 200) : s 7 false 0 i = t 77 false 0 i := h 7 0 i 77 i (if_pos ⟨rfl, hi⟩)
theorem TR.c8 {s t : Sg} (h : TR s t) (i : Nat) (hi : i < 200) : s 8 false 0 i = t 78 false 0 i := h 8 0 i 78 i (if_pos ⟨rfl, hi⟩)
theorem TR.c9 {s t : Sg} (h : TR s t) (i : Nat) (hi : i < 200) : s 9 false 0 i = t 79 false 0 i := h 9 0 i 79 i (if_pos ⟨rfl, hi⟩)
theorem TR.c10 {s t : Sg} (h : TR s t) (i : Nat) (hi : i < 4) : s 10 false 0 i = t 80 false 0 i := h 10 0 i 80 i (if_pos ⟨rfl, hi⟩)
theorem TR.c11 {s t : Sg} (h : TR s t) (i : Nat) (hi : i < 4) : s 11 false 0 i = t 81 false 0 i := h 11 0 i 81 i (if_pos ⟨rfl, hi⟩)
theorem TR.c13 {s t : Sg} (h : TR s t) (i : Nat) (hi : i < 40) : s 13 false 0 i = t 83 false 0 i := h 13 0 i 83 i (if_pos ⟨rfl, hi⟩)
theorem TR.c15 {s t : Sg} (h : TR s t) (i : Nat) (hi : i < 10) : s 15 false 0 i = t 84 false 0 i := h 15 0 i 84 i (if_pos ⟨rfl, hi⟩)
theorem TR.c49 {s t : Sg} (h : TR s t) (i : Nat) (hi : i < 20) : s 49 false 0 i = t 87 false 0 i := h 49 0 i 87 i (if_pos ⟨rfl, hi⟩)
theorem TR.c52 {s t : Sg} (h : TR s t) (i : Nat) (hi : i < 12) : s 52 false 0 i = t 89 false 0 i := h 52 0 i 89 i (if_pos ⟨rfl, hi⟩)
theorem TR.c60 {s t : Sg} (h : TR s t) (i : Nat) (hi : i < 12) : s 60 false 0 i = t 91 false 0 i := h 60 0 i 91 i (if_pos ⟨rfl, hi⟩)
theorem TR.c61 {s t : Sg} (h : TR s t) (i : Nat) (hi : i < 12) : s 61 false 0 i = t 92 false 0 i := h 61 0 i 92 i (if_pos ⟨rfl, hi⟩)
theorem TR.c62 {s t : Sg} (h : TR s t) (i : Nat) (hi : i < 40) : s 62 false 0 i = t 93 false 0 i := h 62 0 i 93 i (if_pos ⟨rfl, hi⟩)
theorem TR.c63 {s t : Sg} (h : TR s t) (i : Nat) (hi : i < 40) : s 63 false 0 i = t 94 false 0 i := h 63 0 i 94 i (if_pos ⟨rfl, hi⟩)
theorem TR.c64 {s t : Sg} (h : TR s t) (i : Nat) (hi : i < 40) : s 64 false 0 i = t 95 false 0 i := h 64 0 i 95 i (if_pos ⟨rfl, hi⟩)
theorem TR.c67 {s t : Sg} (h : TR s t) (i : Nat) (hi : i < 60) : s 67 false 0 i = t 96 false 0 i := h 67 0 i 96 i (if_pos ⟨rfl, hi⟩)
theorem TR.c68 {s t : Sg} (h : TR s t) (i : Nat) (hi : i < 60) : s 68 false 0 i = t 97 false 0 i := h 68 0 i 97 i (if_pos ⟨rfl, hi⟩)
theorem TR.c14 {s t : Sg} (h : TR s t) (r : Nat) (hr : r < 10) (i : Nat) (hi : i < 40) : s 14 false (r + 1) i = t 85 false 0 (40 * r + i) := h 14 (r + 1) i 85 (40 * r + i) (if_pos ⟨by omega, by omega, hi⟩)
theorem TR.c50 {s t : Sg} (h : TR s t) (r : Nat) (hr : r < 20) (i : Nat) (hi : i < 288) : s 50 false (r + 1) i = t 88 false 0 (288 * r + i) := h 50 (r + 1) i 88 (288 * r + i) (if_pos ⟨by omega, by omega, hi⟩)
theorem TR.c57 {s t : Sg} (h : TR s t) (r : Nat) (hr : r < 2) (i : Nat) (hi : i < 25) : s 57 false (r + 1) i = t 90 false 0 (25 * r + i) := h 57 (r + 1) i 90 (25 * r + i) (if_pos ⟨by omega, by omega, hi⟩)
theorem TR.c22 {s t : Sg} (h : TR s t) (i : Nat) (hi : i < 200) : s 22 false 0 i = t 82 false 0 (4 * i) := h 22 0 i 82 (4 * i) (if_pos ⟨rfl, hi⟩)
theorem TR.c23 {s t : Sg} (h : TR s t) (i : Nat) (hi : i < 200) : s 23 false 0 i = t 82 false 0 (4 * i + 1) := h 23 0 i 82 (4 * i + 1) (if_pos ⟨rfl, hi⟩)
theorem TR.c24 {s t : Sg} (h : TR s t) (i : Nat) (hi : i < 200) : s 24 false 0 i = t 82 false 0 (4 * i + 2) := h 24 0 i 82 (4 * i + 2) (if_pos ⟨rfl, hi⟩)
theorem TR.c25 {s t : Sg} (h : TR s t) (i : Nat) (hi : i < 200) : s 25 false 0 i = t 82 false 0 (4 * i + 3) := h 25 0 i 82 (4 * i + 3) (if_pos ⟨rfl, hi⟩)
