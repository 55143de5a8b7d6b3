/-! Rows of rows of numbers are made, in one step of the machine. -/
/-- the row of rows, when i of its rows are there -/
def gdO (kO : ClassId) (n h i : Nat) : Cell := arrV kO n (fun j => if j < i then .ref (h + 1 + j) else .null)
def gdI (kI : ClassId) (k : Nat) : Cell := arrV kI k (fun _ => .int 0)
theorem gdO_set (kO : ClassId) (n h i : Nat) : (gdO kO n h i).setSlot i (.ref (h + 1 + i)) = gdO kO n h (i + 1) := by
  unfold gdO
  rw [arrV_store]
  congr 1
  funext j
  unfold updV
  by_cases e : j = i
  · subst e
    rw [if_pos rfl, if_pos (by omega)]
  · rw [if_neg e]
    show (if j < i then _ else _) = _
    by_cases q : j < i
    · rw [if_pos q, if_pos (by omega)]
    · rw [if_neg q, if_neg (by omega)]
/-- the machine, when i rows of k numbers are there -/
def gdS (T : State) (kO kI : ClassId) (n k : Nat) : Nat → State
  | 0 => T.pushCell (gdO kO n T.heap.size 0)
  | i + 1 => ((gdS T kO kI n k i).pushCell (gdI kI k)).setCell T.heap.size (gdO kO n T.heap.size (i + 1))
theorem gd_size (T : State) (kO kI : ClassId) (n k : Nat) : ∀ i, (gdS T kO kI n k i).heap.size = T.heap.size + 1 + i
  | 0 => by simp [gdS]
  | i + 1 => by
    have h := gd_size T kO kI n k i
    simp [gdS, State.setCell, h]
    omega
theorem gd_head (T : State) (kO kI : ClassId) (n k : Nat) : ∀ i, (gdS T kO kI n k i).heap[T.heap.size]? = some (gdO kO n T.heap.size i)
  | 0 => State.heap_pushCell_size _ _
  | i + 1 => State.heap_setCell_self ((State.heap_pushCell_of_lt (a := T.heap.size) (gdS T kO kI n k i) (gdI kI k) ((show T.heap.size < (gdS T kO kI n k i).heap.size by have hs := gd_size T kO kI n k i; omega))).trans (gd_head T kO kI n k i))
theorem gd_vm (T : State) (kO kI : ClassId) (n k : Nat) : ∀ i, (gdS T kO kI n k i).vm = T.vm
  | 0 => rfl
  | i + 1 => by simp [gdS, gd_vm T kO kI n k i]
theorem gd_used (T : State) (kO kI : ClassId) (n k : Nat) : ∀ i, (gdS T kO kI n k i).slotsUsed = T.slotsUsed + n + i * k
  | 0 => by simp [gdS, gdO, arrV]
  | i + 1 => by
    simp [gdS, gd_used T kO kI n k i, gdI, arrV, Nat.succ_mul]
    omega
theorem gd_top (T : State) (f : JFrame) (kO kI : ClassId) (n k : Nat) : ∀ i, gdS (T.setTop f) kO kI n k i = (gdS T kO kI n k i).setTop f
  | 0 => rfl
  | i + 1 => by
    show ((gdS (T.setTop f) kO kI n k i).pushCell _).setCell _ _ = _
    rw [gd_top T f kO kI n k i, State.pushCell_setTop, State.setCell_setTop, State.heap_setTop]
    rfl
theorem gd_old (T : State) (kO kI : ClassId) (n k : Nat) {a : Nat} (ha : a < T.heap.size) : ∀ i, (gdS T kO kI n k i).heap[a]? = T.heap[a]?
  | 0 => State.heap_pushCell_of_lt _ _ ha
  | i + 1 => (State.heap_setCell_other (Nat.ne_of_gt ha)).trans ((State.heap_pushCell_of_lt (a := a) (gdS T kO kI n k i) (gdI kI k) ((show a < (gdS T kO kI n k i).heap.size by have hs := gd_size T kO kI n k i; omega))).trans (gd_old T kO kI n k ha i))
theorem gd_row (T : State) (kO kI : ClassId) (n k : Nat) : ∀ i j, j < i → (gdS T kO kI n k i).heap[T.heap.size + 1 + j]? = some (gdI kI k)
  | 0, j, h => absurd h (Nat.not_lt_zero j)
  | i + 1, j, h => by
    refine (State.heap_setCell_other (a := T.heap.size) (b := T.heap.size + 1 + j) (show T.heap.size ≠ T.heap.size + 1 + j by omega)).trans ?_
    by_cases e : j = i
    · subst e
      rw [← gd_size T kO kI n k j]
      exact State.heap_pushCell_size _ _
    · exact (State.heap_pushCell_of_lt (a := T.heap.size + 1 + j) (gdS T kO kI n k i) (gdI kI k) ((show T.heap.size + 1 + j < (gdS T kO kI n k i).heap.size by have hs := gd_size T kO kI n k i; omega))).trans (gd_row T kO kI n k i j (by omega))
