/-! The class tests a rule. -/
abbrev B3 : Type := Bool × Bool × Bool
def botV : B3 → List B3 → Bool
  | c, [] => c.1 || c.2.1
  | _, x :: r => botV x r
/-- the class's way through a test: any, all and turned of this level, the levels below, whether NOT is ahead -/
def hsC (f : Nat → Nat) (ev : Nat → Int32) (e : Nat) : Nat → Nat → B3 → List B3 → Bool → Bool
  | 0, _, c, r, _ => botV c r
  | n + 1, i, c, r, q => if e ≤ i then botV c r else if f i = 19 then hsC f ev e n (i + 1) c r (!q) else if f i = 15 ∧ r.length < 8 then hsC f ev e n (i + 1) (false, true, q) (c :: r) false else if f i = 16 ∧ 0 < r.length then (match r with
      | [] => false
      | x :: r2 => hsC f ev e n (i + 1) (x.1, x.2.1 && ((c.1 || c.2.1) != c.2.2), x.2.2) r2 q) else if f i = 18 then hsC f ev e n (i + 1) (c.1 || c.2.1, true, c.2.2) r q else if f i = 17 then hsC f ev e n (i + 1) c r q else hsC f ev e n (cmC f ev e i).2 (c.1, c.2.1 && ((cmC f ev e i).1 != q), c.2.2) r false
def stH (σ : Sg) : List B3 → Prop
  | [] => True
  | c :: r => (σ 18 false 0 r.length = bI (c.1 = true) ∧ σ 19 false 0 r.length = bI (c.2.1 = true) ∧ σ 20 false 0 r.length = bI (c.2.2 = true)) ∧ stH σ r
theorem stH_lo {σ σ' : Sg} : ∀ {r : List B3}, stH σ r → (∀ k j, (k = 18 ∨ k = 19 ∨ k = 20) → j < r.length → σ' k false 0 j = σ k false 0 j) → stH σ' r
  | [], _, _ => trivial
  | c :: r, h, e => by
    have e2 : ∀ k, (k = 18 ∨ k = 19 ∨ k = 20) → σ' k false 0 r.length = σ k false 0 r.length := fun k hk => e k r.length hk (Nat.lt_succ_self _)
    refine ⟨⟨(e2 18 (by omega)).trans h.1.1, (e2 19 (by omega)).trans h.1.2.1, (e2 20 (by omega)).trans h.1.2.2⟩, stH_lo h.2 (fun k j hk hj => e k j hk ?_)⟩
    exact Nat.lt_succ_of_lt hj
def HS (σ σ' : Sg) (i : Nat) (c : B3) (r : List B3) : Prop := σ' 12 false 0 7 = nI i ∧ (∀ k d x j, scc k j = false → σ' k d x j = σ k d x j) ∧ stH σ' (c :: r)
theorem scc_n {σ : Sg} {k k' : Nat} {d d' : Bool} {x x' j j' : Nat} {v : Int32} (h : scc k' j' = false) (h2 : scc k j = true) : up4 σ k d x j v k' d' x' j' = σ k' d' x' j' := if_neg (fun q => by rw [q.1, q.2.2.2, h2] at h; cases h)
theorem HS_at {σ σ' : Sg} {i j : Nat} {c : B3} {r : List B3} (h : HS σ σ' i c r) : HS σ (up4 σ' 12 false 0 7 (nI j)) j c r :=
  ⟨up4_s _ _ _ _ _ _, fun k d x y e => (scc_n e rfl).trans (h.2.1 k d x y e), stH_lo h.2.2 (fun k y hk _ => up4_nk (by omega))⟩
theorem HS_all {σ σ' : Sg} {i : Nat} {c : B3} {r : List B3} {l : Bool} {v : Int32} (h : HS σ σ' i c r) (hv : v = bI (l = true)) : HS σ (up4 σ' 19 false 0 r.length v) i (c.1, l, c.2.2) r :=
  ⟨(up4_nk (by decide)).trans h.1, fun k d x y e => (scc_n e rfl).trans (h.2.1 k d x y e), ⟨(up4_nk (by decide)).trans h.2.2.1.1, (up4_s _ _ _ _ _ _).trans hv, (up4_nk (by decide)).trans h.2.2.1.2.2⟩, stH_lo h.2.2.2 (fun k y hk hy => up4_nj (by omega))⟩
theorem HS_any {σ σ' : Sg} {i : Nat} {c : B3} {r : List B3} {l : Bool} {v : Int32} (h : HS σ σ' i c r) (hv : v = bI (l = true)) : HS σ (up4 σ' 18 false 0 r.length v) i (l, c.2.1, c.2.2) r :=
  ⟨(up4_nk (by decide)).trans h.1, fun k d x y e => (scc_n e rfl).trans (h.2.1 k d x y e), ⟨(up4_s _ _ _ _ _ _).trans hv, (up4_nk (by decide)).trans h.2.2.1.2.1, (up4_nk (by decide)).trans h.2.2.1.2.2⟩, stH_lo h.2.2.2 (fun k y hk hy => up4_nj (by omega))⟩
theorem HS_pop {σ σ' : Sg} {i : Nat} {c x : B3} {r : List B3} (h : HS σ σ' i c (x :: r)) : HS σ σ' i x r := ⟨h.1, h.2.1, h.2.2.2⟩
def bgW (σ : Sg) (o : Nat) (v : Int32) : Sg := up4 (up4 (up4 σ 18 false 0 o (nI 0)) 19 false 0 o (nI 1)) 20 false 0 o v
theorem HS_push {σ σ' : Sg} {i : Nat} {c : B3} {r : List B3} {q : Bool} {v : Int32} (h : HS σ σ' i c r) (hv : v = bI (q = true)) : HS σ (bgW σ' (r.length + 1) v) i (false, true, q) (c :: r) := by
  refine ⟨?_, fun k d x y e => ?_, ⟨?_, ?_, ?_⟩, stH_lo h.2.2 (fun k y hk hy => ?_)⟩
  · unfold bgW
    rw [up4_nk (by decide), up4_nk (by decide), up4_nk (by decide)]
    exact h.1
  · unfold bgW
    rw [scc_n e rfl, scc_n e rfl, scc_n e rfl]
    exact h.2.1 k d x y e
  · unfold bgW
    rw [up4_nk (by decide), up4_nk (by decide)]
    exact (up4_s _ _ _ _ _ _).trans (bI_f (fun z : false = true => Bool.false_ne_true z)).symm
  · unfold bgW
    rw [up4_nk (by decide)]
    exact (up4_s _ _ _ _ _ _).trans (bI_t rfl).symm
  · exact (up4_s _ _ _ _ _ _).trans hv
  · have hy2 : ¬ y = r.length + 1 := fun q => by
      rw [q] at hy
      exact Nat.lt_irrefl _ hy
    unfold bgW
    rw [up4_nj hy2, up4_nj hy2, up4_nj hy2]
theorem HS_0 {σ : Sg} {i : Nat} {v : Int32} (h : σ 12 false 0 7 = nI i) (hv : v = bI (false = true)) : HS σ (bgW σ 0 v) i (false, true, false) [] := by
  refine ⟨?_, fun k d x y e => ?_, ⟨?_, ?_, ?_⟩, trivial⟩
  · unfold bgW
    rw [up4_nk (by decide), up4_nk (by decide), up4_nk (by decide)]
    exact h
  · unfold bgW
    rw [scc_n e rfl, scc_n e rfl, scc_n e rfl]
  · unfold bgW
    rw [up4_nk (by decide), up4_nk (by decide)]
    exact (up4_s _ _ _ _ _ _).trans (bI_f (by decide)).symm
  · unfold bgW
    rw [up4_nk (by decide)]
    exact (up4_s _ _ _ _ _ _).trans (bI_t rfl).symm
  · exact (up4_s _ _ _ _ _ _).trans hv
theorem bI_e1 {b : Bool} (h : ¬ bI (b = true) = nI 0) : b = true := by
  cases b
  · exact absurd (bI_f (by decide)) h
  · rfl
theorem bI_e0 {b : Bool} (h : bI (b = true) = nI 0) : b = false := by
  cases b
  · rfl
  · exact absurd ((bI_t rfl).symm.trans h) (by decide)
theorem cv_begin {σ : Sg} {o : Nat} {v : Int32} (ho : o < 9) (hv : v = nI 0 ∨ v = nI 1) : Ev false 20 [.inr (.inr (12, false, 0)), .inl (nI o), .inl v] σ none (bgW σ o v) := by
  refine Ev_wp 40 [] rfl rfl ?_
  refine ⟨o, rfl, (by show _ < 9; omega), nI 0, rfl, o, rfl, (by show _ < 9; omega), nI 1, rfl, o, rfl, (by show _ < 9; omega), v, (by rcases hv with z | z <;> rw [z] <;> rfl), ?_⟩
  exact ⟨rfl, rfl⟩
