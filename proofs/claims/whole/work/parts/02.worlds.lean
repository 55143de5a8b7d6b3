/-! The pure layer: values, worlds by labels, and what they are on the heap. -/
abbrev AV : Type := Int32 ⊕ (Int64 ⊕ (Nat × Bool × Nat))
abbrev Sg : Type := Nat → Bool → Nat → Nat → Int32
abbrev Ad : Type := Nat → Bool → Nat → Nat
abbrev Shp : Type := (Nat × List (Option (Nat × (Bool → Bool)))) ⊕ ((Bool × (Bool → Nat)) ⊕ (Nat × (Bool → Nat)))
abbrev Lc : Type := List (Option AV)
abbrev Lb : Type := Nat × Bool × Nat
abbrev Cs : Type := ClassId × ClassId × ClassId
def up4 (σ : Sg) (k : Nat) (d : Bool) (i j : Nat) (v : Int32) : Sg := fun k' d' i' j' => if k' = k ∧ d' = d ∧ i' = i ∧ j' = j then v else σ k' d' i' j'
def cv (as : Ad) : AV → Value
  | .inl x => .int x
  | .inr (.inl x) => .long x
  | .inr (.inr (k, d, i)) => .ref (as k d i)
def shp : Nat → Option (Bool × Shp) := fun k => bif Nat.blt k 105 then (bif Nat.blt k 52 then
 (bif Nat.blt k 26 then
 (bif Nat.blt k 13 then
 (bif Nat.blt k 6 then
 (bif Nat.blt k 3 then
 (bif Nat.blt k 1 then
 (some (false, .inl (11, [some (1, fun _ => false), some (12, fun _ => false), some (21, fun _ => false), some (26, fun _ => false), some (26, fun _ => true), some (48, fun _ => false), some (51, fun _ => false), some (56, fun _ => false), some (59, fun _ => false), some (66, fun _ => false)])))
 else (bif Nat.blt k 2 then
 (some (false, .inl (8, [none, none, none, none, none, some (2, fun _ => false), some (3, fun _ => false), some (4, fun _ => false), some (5, fun _ => false), some (6, fun _ => false), some (7, fun _ => false), some (8, fun _ => false), some (9, fun _ => false), some (10, fun _ => false), some (11, fun _ => false)])))
 else (some (false, .inr (.inl (false, fun _ => 12))))))
 else (bif Nat.blt k 4 then
 (some (false, .inr (.inl (false, fun _ => 12))))
 else (bif Nat.blt k 5 then
 (some (false, .inr (.inl (false, fun _ => 12))))
 else (some (false, .inr (.inl (false, fun _ => 60)))))))
 else (bif Nat.blt k 9 then
 (bif Nat.blt k 7 then
 (some (false, .inr (.inl (false, fun _ => 200))))
 else (bif Nat.blt k 8 then
 (some (false, .inr (.inl (false, fun _ => 200))))
 else (some (false, .inr (.inl (false, fun _ => 200))))))
 else (bif Nat.blt k 11 then
 (bif Nat.blt k 10 then
 (some (false, .inr (.inl (false, fun _ => 200))))
 else (some (false, .inr (.inl (false, fun _ => 4)))))
 else (bif Nat.blt k 12 then
 (some (false, .inr (.inl (false, fun _ => 4))))
 else (some (false, .inl (6, [some (13, fun _ => false), none, none, some (14, fun _ => false), some (15, fun _ => false), some (16, fun _ => false), some (17, fun _ => false), none, some (18, fun _ => false), some (19, fun _ => false), some (20, fun _ => false)])))))))
 else (bif Nat.blt k 19 then
 (bif Nat.blt k 16 then
 (bif Nat.blt k 14 then
 (some (false, .inr (.inl (false, fun _ => 40))))
 else (bif Nat.blt k 15 then
 (some (false, .inr (.inr (10, fun _ => 40))))
 else (some (false, .inr (.inl (false, fun _ => 10))))))
 else (bif Nat.blt k 17 then
 (some (false, .inr (.inl (false, fun _ => 10))))
 else (bif Nat.blt k 18 then
 (some (false, .inr (.inl (true, fun _ => 10))))
 else (some (false, .inr (.inl (true, fun _ => 9)))))))
 else (bif Nat.blt k 22 then
 (bif Nat.blt k 20 then
 (some (false, .inr (.inl (true, fun _ => 9))))
 else (bif Nat.blt k 21 then
 (some (false, .inr (.inl (true, fun _ => 9))))
 else (some (false, .inl (3, [none, some (22, fun _ => false), some (23, fun _ => false), some (24, fun _ => false), some (25, fun _ => false)])))))
 else (bif Nat.blt k 24 then
 (bif Nat.blt k 23 then
 (some (false, .inr (.inl (false, fun _ => 200))))
 else (some (false, .inr (.inl (false, fun _ => 200)))))
 else (bif Nat.blt k 25 then
 (some (false, .inr (.inl (false, fun _ => 200))))
 else (some (false, .inr (.inl (false, fun _ => 200)))))))))
 else (bif Nat.blt k 39 then
 (bif Nat.blt k 32 then
 (bif Nat.blt k 29 then
 (bif Nat.blt k 27 then
 (some (true, .inl (0, [some (1, fun _ => false), some (12, fun _ => false), some (37, fun d => d), some (44, fun d => d), none, none, some (27, fun d => d), some (28, fun d => d), some (29, fun d => d), some (30, fun d => d), some (31, fun d => d), some (32, fun d => d), some (33, fun d => d), some (34, fun d => d), some (35, fun d => d), some (36, fun d => d)])))
 else (bif Nat.blt k 28 then
 (some (true, .inr (.inl (false, fun _ => 12))))
 else (some (true, .inr (.inl (true, fun _ => 12))))))
 else (bif Nat.blt k 30 then
 (some (true, .inr (.inl (false, fun _ => 12))))
 else (bif Nat.blt k 31 then
 (some (true, .inr (.inl (false, fun _ => 12))))
 else (some (true, .inr (.inl (false, fun _ => 12)))))))
 else (bif Nat.blt k 35 then
 (bif Nat.blt k 33 then
 (some (true, .inr (.inr (4, fun _ => 60))))
 else (bif Nat.blt k 34 then
 (some (true, .inr (.inl (false, fun _ => 60))))
 else (some (true, .inr (.inr (6, fun _ => 200))))))
 else (bif Nat.blt k 37 then
 (bif Nat.blt k 36 then
 (some (true, .inr (.inl (false, fun _ => 200))))
 else (some (true, .inr (.inl (false, fun _ => 7)))))
 else (bif Nat.blt k 38 then
 (some (true, .inl (2, [none, none, none, some (38, fun d => d), some (39, fun d => d), some (40, fun d => d), some (41, fun d => d), some (42, fun d => d), some (43, fun d => d)])))
 else (some (true, .inr (.inr (5, fun d => bif d then 0 else 4000))))))))
 else (bif Nat.blt k 45 then
 (bif Nat.blt k 42 then
 (bif Nat.blt k 40 then
 (some (true, .inr (.inr (12, fun _ => 24))))
 else (bif Nat.blt k 41 then
 (some (true, .inr (.inr (12, fun _ => 24))))
 else (some (true, .inr (.inr (12, fun _ => 24))))))
 else (bif Nat.blt k 43 then
 (some (true, .inr (.inr (12, fun _ => 24))))
 else (bif Nat.blt k 44 then
 (some (true, .inr (.inl (false, fun _ => 12))))
 else (some (true, .inl (10, [none, none, none, none, some (45, fun d => d), some (46, fun d => d), some (47, fun d => d)]))))))
 else (bif Nat.blt k 48 then
 (bif Nat.blt k 46 then
 (some (true, .inr (.inl (false, fun _ => 12))))
 else (bif Nat.blt k 47 then
 (some (true, .inr (.inl (false, fun _ => 20))))
 else (some (true, .inr (.inl (false, fun _ => 20))))))
 else (bif Nat.blt k 50 then
 (bif Nat.blt k 49 then
 (some (false, .inl (1, [none, some (49, fun _ => false), some (50, fun _ => false)])))
 else (some (false, .inr (.inl (false, fun _ => 20)))))
 else (bif Nat.blt k 51 then
 (some (false, .inr (.inr (20, fun _ => 288))))
 else (some (false, .inl (5, [some (52, fun _ => false), some (53, fun _ => false), none, some (54, fun _ => false), some (55, fun _ => false)])))))))))
 else (bif Nat.blt k 78 then
 (bif Nat.blt k 65 then
 (bif Nat.blt k 58 then
 (bif Nat.blt k 55 then
 (bif Nat.blt k 53 then
 (some (false, .inr (.inl (false, fun _ => 12))))
 else (bif Nat.blt k 54 then
 (some (false, .inr (.inl (false, fun _ => 8))))
 else (some (false, .inr (.inl (false, fun _ => 256))))))
 else (bif Nat.blt k 56 then
 (some (false, .inr (.inl (false, fun _ => 2048))))
 else (bif Nat.blt k 57 then
 (some (false, .inl (4, [some (57, fun _ => false), some (58, fun _ => false)])))
 else (some (false, .inr (.inr (2, fun _ => 25)))))))
 else (bif Nat.blt k 61 then
 (bif Nat.blt k 59 then
 (some (false, .inr (.inl (true, fun _ => 50))))
 else (bif Nat.blt k 60 then
 (some (false, .inl (7, [none, none, some (60, fun _ => false), some (61, fun _ => false), some (62, fun _ => false), some (63, fun _ => false), some (64, fun _ => false), some (65, fun _ => false)])))
 else (some (false, .inr (.inl (false, fun _ => 12))))))
 else (bif Nat.blt k 63 then
 (bif Nat.blt k 62 then
 (some (false, .inr (.inl (false, fun _ => 12))))
 else (some (false, .inr (.inl (false, fun _ => 40)))))
 else (bif Nat.blt k 64 then
 (some (false, .inr (.inl (false, fun _ => 40))))
 else (some (false, .inr (.inl (false, fun _ => 40))))))))
 else (bif Nat.blt k 71 then
 (bif Nat.blt k 68 then
 (bif Nat.blt k 66 then
 (some (false, .inr (.inl (false, fun _ => 40))))
 else (bif Nat.blt k 67 then
 (some (false, .inl (9, [none, some (67, fun _ => false), some (68, fun _ => false)])))
 else (some (false, .inr (.inl (false, fun _ => 60))))))
 else (bif Nat.blt k 69 then
 (some (false, .inr (.inl (true, fun _ => 60))))
 else (bif Nat.blt k 70 then
 (some (false, .inl (12, [none, some (70, fun _ => false), some (71, fun _ => false), none, some (72, fun _ => false), some (73, fun _ => false), some (74, fun _ => false), none, some (75, fun _ => false), none, some (76, fun _ => false), some (77, fun _ => false), some (78, fun _ => false), some (79, fun _ => false), some (80, fun _ => false), some (81, fun _ => false), none, none, none, some (82, fun _ => false), none, some (83, fun _ => false), none, some (84, fun _ => false), some (85, fun _ => false), some (86, fun _ => false), none, some (87, fun _ => false), some (88, fun _ => false), some (89, fun _ => false), some (90, fun _ => false), none, some (91, fun _ => false), some (92, fun _ => false), none, some (93, fun _ => false), some (94, fun _ => false), some (95, fun _ => false), none, some (96, fun _ => false), some (97, fun _ => false), none, some (98, fun _ => false), some (99, fun _ => false), some (100, fun _ => false), some (101, fun _ => false), some (102, fun _ => false), some (103, fun _ => false), some (104, fun _ => false), none])))
 else (some (false, .inr (.inl (false, fun _ => 23184)))))))
 else (bif Nat.blt k 74 then
 (bif Nat.blt k 72 then
 (some (false, .inr (.inl (false, fun _ => 23184))))
 else (bif Nat.blt k 73 then
 (some (false, .inr (.inl (false, fun _ => 12))))
 else (some (false, .inr (.inl (false, fun _ => 12))))))
 else (bif Nat.blt k 76 then
 (bif Nat.blt k 75 then
 (some (false, .inr (.inl (false, fun _ => 12))))
 else (some (false, .inr (.inl (false, fun _ => 60)))))
 else (bif Nat.blt k 77 then
 (some (false, .inr (.inl (false, fun _ => 200))))
 else (some (false, .inr (.inl (false, fun _ => 200)))))))))
 else (bif Nat.blt k 91 then
 (bif Nat.blt k 84 then
 (bif Nat.blt k 81 then
 (bif Nat.blt k 79 then
 (some (false, .inr (.inl (false, fun _ => 200))))
 else (bif Nat.blt k 80 then
 (some (false, .inr (.inl (false, fun _ => 200))))
 else (some (false, .inr (.inl (false, fun _ => 4))))))
 else (bif Nat.blt k 82 then
 (some (false, .inr (.inl (false, fun _ => 4))))
 else (bif Nat.blt k 83 then
 (some (false, .inr (.inl (false, fun _ => 800))))
 else (some (false, .inr (.inl (false, fun _ => 40)))))))
 else (bif Nat.blt k 87 then
 (bif Nat.blt k 85 then
 (some (false, .inr (.inl (false, fun _ => 10))))
 else (bif Nat.blt k 86 then
 (some (false, .inr (.inl (false, fun _ => 400))))
 else (some (false, .inr (.inl (true, fun _ => 10))))))
 else (bif Nat.blt k 89 then
 (bif Nat.blt k 88 then
 (some (false, .inr (.inl (false, fun _ => 20))))
 else (some (false, .inr (.inl (false, fun _ => 5760)))))
 else (bif Nat.blt k 90 then
 (some (false, .inr (.inl (false, fun _ => 12))))
 else (some (false, .inr (.inl (false, fun _ => 50))))))))
 else (bif Nat.blt k 98 then
 (bif Nat.blt k 94 then
 (bif Nat.blt k 92 then
 (some (false, .inr (.inl (false, fun _ => 12))))
 else (bif Nat.blt k 93 then
 (some (false, .inr (.inl (false, fun _ => 12))))
 else (some (false, .inr (.inl (false, fun _ => 40))))))
 else (bif Nat.blt k 96 then
 (bif Nat.blt k 95 then
 (some (false, .inr (.inl (false, fun _ => 40))))
 else (some (false, .inr (.inl (false, fun _ => 40)))))
 else (bif Nat.blt k 97 then
 (some (false, .inr (.inl (false, fun _ => 60))))
 else (some (false, .inr (.inl (true, fun _ => 60)))))))
 else (bif Nat.blt k 101 then
 (bif Nat.blt k 99 then
 (some (false, .inr (.inl (false, fun _ => 60))))
 else (bif Nat.blt k 100 then
 (some (false, .inr (.inl (false, fun _ => 60))))
 else (some (false, .inr (.inl (false, fun _ => 12))))))
 else (bif Nat.blt k 103 then
 (bif Nat.blt k 102 then
 (some (false, .inr (.inl (false, fun _ => 8))))
 else (some (false, .inr (.inl (false, fun _ => 2304)))))
 else (bif Nat.blt k 104 then
 (some (false, .inr (.inl (true, fun _ => 50))))
 else (some (false, .inr (.inl (false, fun _ => 8))))))))))) else none
def rowsOf : Shp → Nat
  | .inr (.inr (n, _)) => n
  | _ => 0
def lbsAt (k : Nat) : List Lb := match shp k with
  | none => []
  | some (b, s) => (bif b then [false, true] else [false]).flatMap fun d => (List.range (rowsOf s + 1)).map fun i => (k, d, i)
def lbs (sd : Bool) : List Lb := bif sd then (List.range' 69 36).flatMap lbsAt else (List.range 69).flatMap lbsAt
def inS (sd : Bool) (k : Nat) : Bool := bif sd then Nat.ble 69 k && Nat.blt k 105 else Nat.blt k 69
def objV (as : Ad) (v : Nat → Int32) (d : Bool) (j : Nat) (f : Option (Nat × (Bool → Bool))) : Value := match f with
  | none => .int (v j)
  | some (k', g) => .ref (as k' (g d) 0)
def cel (cs : Cs) (as : Ad) (σ : Sg) (k : Nat) (d : Bool) (i : Nat) : va_E := match shp k with
  | none => .inr (0, [])
  | some (_, .inl (ci, fs)) => .inr (ci, fs.mapIdx (objV as (σ k d i) d))
  | some (_, .inr (.inl (z, len))) => .inl (bif z then cs.2.1 else cs.1, len d, .inl (σ k d i))
  | some (_, .inr (.inr (n, len))) => match i with
    | 0 => .inl (cs.2.2, n, .inr (.inr (.inr (.inr fun j => if j < n then some (as k d (j + 1)) else none))))
    | i' + 1 => .inl (cs.1, len d, .inl (σ k d (i' + 1)))
def conc (sd : Bool) (cs : Cs) (as : Ad) (σ : Sg) : va_W := (lbs sd).map fun c => (as c.1 c.2.1 c.2.2, cel cs as σ c.1 c.2.1 c.2.2)
theorem lbs_mem {sd : Bool} {k : Nat} {b : Bool} {s : Shp} {d : Bool} {i : Nat} (h : shp k = some (b, s)) (hs : inS sd k = true) (hd : (b || !d) = true) (hi : i ≤ rowsOf s) : (k, d, i) ∈ lbs sd := by
  have h1 : (k, d, i) ∈ lbsAt k := by
    unfold lbsAt
    rw [h]
    refine List.mem_flatMap.mpr ⟨d, ?_, List.mem_map.mpr ⟨i, List.mem_range.mpr (by omega), rfl⟩⟩
    cases b <;> cases d <;> simp_all
  cases sd with
  | false =>
    have h2 : k < 69 := by simpa [inS] using hs
    exact List.mem_flatMap.mpr ⟨k, List.mem_range.mpr h2, h1⟩
  | true =>
    have h2 : 69 ≤ k ∧ k < 105 := by simpa [inS] using hs
    exact List.mem_flatMap.mpr ⟨k, List.mem_range'.mpr ⟨k - 69, by omega, by omega⟩, h1⟩
theorem lbs_nd (sd : Bool) : (lbs sd).Nodup := by cases sd <;> decide +kernel
theorem conc_get {sd : Bool} {cs : Cs} {as : Ad} {σ : Sg} {c : Lb} (h : c ∈ lbs sd) : ∃ q : Nat, (lbs sd)[q]? = some c ∧ (conc sd cs as σ)[q]? = some (as c.1 c.2.1 c.2.2, cel cs as σ c.1 c.2.1 c.2.2) := by
  obtain ⟨q, hq⟩ := List.getElem?_of_mem h
  exact ⟨q, hq, by unfold conc; rw [List.getElem?_map, hq]; rfl⟩
theorem up4_ne {σ : Sg} {k : Nat} {d : Bool} {i j : Nat} {v : Int32} {k' : Nat} {d' : Bool} {i' : Nat} (h : ¬ (k', d', i') = (k, d, i)) (j' : Nat) : up4 σ k d i j v k' d' i' j' = σ k' d' i' j' := by
  unfold up4
  rw [if_neg]
  rintro ⟨rfl, rfl, rfl, -⟩
  exact h rfl
theorem up4_same (σ : Sg) (k : Nat) (d : Bool) (i j : Nat) (v : Int32) : (up4 σ k d i j v) k d i = upd (σ k d i) j v := by
  funext j'
  unfold up4 upd
  by_cases h : j' = j <;> simp [h]
theorem cel_ne {cs : Cs} {as : Ad} {σ : Sg} {k : Nat} {d : Bool} {i j : Nat} {v : Int32} {c : Lb} (h : ¬ c = (k, d, i)) : cel cs as (up4 σ k d i j v) c.1 c.2.1 c.2.2 = cel cs as σ c.1 c.2.1 c.2.2 := by
  obtain ⟨k', d', i'⟩ := c
  have e : up4 σ k d i j v k' d' i' = σ k' d' i' := funext (up4_ne h)
  unfold cel
  dsimp only
  cases i' with
  | zero => rw [e]
  | succ i'' => simp only [e]
theorem conc_set {sd : Bool} {cs : Cs} {as : Ad} {σ : Sg} {k : Nat} {d : Bool} {i q : Nat} (j : Nat) (v : Int32) (hq : (lbs sd)[q]? = some (k, d, i)) : (conc sd cs as σ).set q (as k d i, cel cs as (up4 σ k d i j v) k d i) = conc sd cs as (up4 σ k d i j v) := by
  refine List.ext_getElem? fun p => ?_
  unfold conc
  by_cases hp : q = p
  · subst hp
    have hl : q < ((lbs sd).map fun c => (as c.1 c.2.1 c.2.2, cel cs as σ c.1 c.2.1 c.2.2)).length := by
      rw [List.length_map]; exact (List.getElem?_eq_some_iff.mp hq).1
    rw [List.getElem?_set_self hl, List.getElem?_map, hq]
    rfl
  · rw [List.getElem?_set_ne hp, List.getElem?_map, List.getElem?_map]
    cases hc : (lbs sd)[p]? with
    | none => rfl
    | some c =>
      have hne : ¬ c = (k, d, i) := by
        rintro rfl
        exact hp ((List.getElem?_inj (List.getElem?_eq_some_iff.mp hq).1 (lbs_nd sd)).mp (hq.trans hc.symm))
      simp only [Option.map_some, cel_ne hne]
/-! locals -/
def noL (L : Lc) : Nat → Bool
  | 0 => true
  | j + 1 => match L[j]? with
    | some (some (.inr (.inl _))) => false
    | _ => true
theorem noL_cat (as : Ad) {L : Lc} {i : Nat} {u : AV} (hn : noL L (i + 1) = true) (hu : L[i]? = some (some u)) : (cv as u).category = 1 := by
  rcases u with x | x | x
  · rfl
  · simp [noL, hu] at hn
  · rfl
def lvOf (as : Ad)
 (L : Lc) : List (Nat × Value) := (List.range L.length).filterMap fun i => match L[i]? with
  | some (some v) => some (i, cv as v)
  | _ => none
def hasL (as : Ad) (ls : Array Slot) (nL : Nat) (L : Lc) : Prop := lv_has ls nL (lvOf as L) ∧ L.length = nL
theorem lvOf_mem {as : Ad} {L : Lc} {i : Nat} {w : Value} : (i, w) ∈ lvOf as L ↔ ∃ v, L[i]? = some (some v) ∧ w = cv as v := by
  unfold lvOf
  rw [List.mem_filterMap]
  constructor
  · rintro ⟨j, hj, h⟩
    split at h
    next v hv =>
      cases h
      exact ⟨v, hv, rfl⟩
    next => cases h
  · rintro ⟨v, hv, rfl⟩
    exact ⟨i, List.mem_range.mpr (List.getElem?_eq_some_iff.mp hv).1, by rw [hv]⟩
theorem hasL_at {as : Ad} {ls : Array Slot} {nL : Nat} {L : Lc} (h : hasL as ls nL L) {i : Nat} {v : AV} (hi : L[i]? = some (some v)) : ls[i]? = some (.val (cv as v)) :=
  h.1.2.2 (i, cv as v) (lvOf_mem.mpr ⟨v, hi, rfl⟩)
theorem hasL_set {as : Ad} {ls ls' : Array Slot} {nL n : Nat} {L : Lc} {v : AV} (h : hasL as ls nL L) (hn : noL L n = true) (hk : lv_has ls' nL ((n, cv as v) :: (lvOf as L).filter (fun q => !(q.1 == n) && !(q.1 + 1 == n && q.2.category == 2)))) : hasL as ls' nL (L.set n (some v)) := by
  refine ⟨⟨hk.1, hk.2.1, fun q hq => ?_⟩, by rw [List.length_set]; exact h.2⟩
  obtain ⟨i, w⟩ := q
  obtain ⟨u, hu, rfl⟩ := lvOf_mem.mp hq
  refine hk.2.2 (i, cv as u) ?_
  by_cases e : n = i
  · subst e
    have hl : n < L.length := by
      have := (List.getElem?_eq_some_iff.mp hu).1
      rwa [List.length_set] at this
    rw [List.getElem?_set_self hl] at hu
    cases hu
    exact List.mem_cons_self
  · rw [List.getElem?_set_ne e] at hu
    refine List.mem_cons_of_mem _ (List.mem_filter.mpr ⟨lvOf_mem.mpr ⟨u, hu, rfl⟩, ?_⟩)
    have e1 : (i == n) = false := by simp; omega
    simp only [e1, Bool.not_false, Bool.true_and, Bool.not_eq_true']
    by_cases e2 : i + 1 = n
    · subst e2
      simp [noL_cat as hn hu]
    · have : (i + 1 == n) = false := by simp; omega
      simp [this]
theorem hasL_set2 {as : Ad} {ls ls' : Array Slot} {nL n : Nat} {L : Lc} {v : AV} (h : hasL as ls nL L) (hn : noL L n = true) (hk : lv_has ls' nL ((n, cv as v) :: (lvOf as L).filter (fun q => !(q.1 == n) && (!(q.1 == n + 1) && !(q.1 + 1 == n && q.2.category == 2))))) : hasL as ls' nL ((L.set n (some v)).set (n + 1) none) := by
  refine ⟨⟨hk.1, hk.2.1, fun q hq => ?_⟩, by rw [List.length_set, List.length_set]; exact h.2⟩
  obtain ⟨i, w⟩ := q
  obtain ⟨u, hu, rfl⟩ := lvOf_mem.mp hq
  refine hk.2.2 (i, cv as u) ?_
  by_cases e0 : n + 1 = i
  · subst e0
    have hl : n + 1 < (L.set n (some v)).length := by
      have := (List.getElem?_eq_some_iff.mp hu).1
      rwa [List.length_set] at this
    rw [List.getElem?_set_self hl] at hu
    cases hu
  rw [List.getElem?_set_ne e0] at hu
  by_cases e : n = i
  · subst e
    have hl : n < L.length := by
      have := (List.getElem?_eq_some_iff.mp hu).1
      rwa [List.length_set] at this
    rw [List.getElem?_set_self hl] at hu
    cases hu
    exact List.mem_cons_self
  · rw [List.getElem?_set_ne e] at hu
    refine List.mem_cons_of_mem _ (List.mem_filter.mpr ⟨lvOf_mem.mpr ⟨u, hu, rfl⟩, ?_⟩)
    have e1 : (i == n) = false := by simp; omega
    have e3 : (i == n + 1) = false := by simp; omega
    simp only [e1, e3, Bool.not_false, Bool.true_and, Bool.not_eq_true']
    by_cases e2 : i + 1 = n
    · subst e2
      simp [noL_cat as hn hu]
    · have : (i + 1 == n) = false := by simp; omega
      simp [this]
def argL : List AV → Lc
  | [] => []
  | v :: vs => match v with
    | .inr (.inl x) => some (.inr (.inl x)) :: none :: argL vs
    | v => some v :: argL vs
def initL (nL : Nat) (vs : List AV) : Lc := argL vs ++ List.replicate (nL - (argL vs).length) none
theorem argL_mem (as : Ad) : ∀ (vs : List AV) (off i : Nat) (v : AV), (argL vs)[i]? = some (some v) → (off + i, cv as v) ∈ lv_args off (vs.map (cv as))
  | [], off, i, v, h => by simp [argL] at h
  | .inl x :: vs, off, i, v, h => by
    show _ ∈ lv_args off (Value.int x :: vs.map (cv as))
    unfold lv_args
    cases i with
    | zero =>
      cases h
      exact List.mem_cons_self
    | succ i =>
      refine List.mem_cons_of_mem _ ?_
      have := argL_mem as vs (off + 1) i v h
      rw [show off + (i + 1) = off + 1 + i by omega]
      exact this
  | .inr (.inr x) :: vs, off, i, v, h => by
    show _ ∈ lv_args off (Value.ref _ :: vs.map (cv as))
    unfold lv_args
    cases i with
    | zero =>
      cases h
      exact List.mem_cons_self
    | succ i =>
      refine List.mem_cons_of_mem _ ?_
      have := argL_mem as vs (off + 1) i v h
      rw [show off + (i + 1) = off + 1 + i by omega]
      exact this
  | .inr (.inl x) :: vs, off, i, v, h => by
    show _ ∈ lv_args off (Value.long x :: vs.map (cv as))
    unfold lv_args
    match i, h with
    | 0, h =>
      cases h
      exact List.mem_cons_self
    | 1, h => cases h
    | i + 2, h =>
      refine List.mem_cons_of_mem _ ?_
      have := argL_mem as vs (off + 2) i v h
      rw [show off + (i + 2) = off + 2 + i by omega]
      exact this
theorem argL_len (as : Ad) : ∀ vs : List AV, (lg_sl (vs.map (cv as))).length = (argL vs).length
  | [] => rfl
  | .inl x :: vs => by
    have := argL_len as vs
    simp [lg_sl, argL, cv, Value.category] at this ⊢
    exact this
  | .inr (.inr x) :: vs => by
    have := argL_len as vs
    simp [lg_sl, argL, cv, Value.category] at this ⊢
    exact this
  | .inr (.inl x) :: vs => by
    have := argL_len as vs
    simp [lg_sl, argL, cv, Value.category] at this ⊢
    omega
theorem hasL_init {as : Ad} {nL : Nat} {vs : List AV} (h : (argL vs).length ≤ nL) : hasL as ((lg_sl (vs.map (cv as)) ++ List.replicate (nL - (lg_sl (vs.map (cv as))).length) Slot.unset).toArray) nL (initL nL vs) := by
  have h1 := lv_entry (vs.map (cv as)) (n := nL) (by rw [argL_len]; exact h)
  refine ⟨⟨h1.1, h1.2.1, fun q hq => h1.2.2 q ?_⟩, by unfold initL; rw [List.length_append, List.length_replicate]; omega⟩
  obtain ⟨i, w⟩ := q
  obtain ⟨v, hv, rfl⟩ := lvOf_mem.mp hq
  have hv2 : (argL vs)[i]? = some (some v) := by
    unfold initL at hv
    by_cases hi : i < (argL vs).length
    · rwa [List.getElem?_append_left hi] at hv
    · rw [List.getElem?_append_right (by omega)] at hv
      have := List.eq_of_mem_replicate (List.mem_of_getElem? hv)
      cases this
  have := argL_mem as vs 0 i v hv2
  rwa [Nat.zero_add] at this
