/-! The judgements: Ev a method's run, G a walk from an instruction, over the worlds of one side. -/
def tysOf (cs : Cs) : List (ClassId × FieldType) := [(cs.1, .int), (cs.2.1, .boolean), (cs.2.2, .array .int)]
def Aof (sd : Bool) (as : Ad) (sz : Nat) : Nat → Prop := fun q => (∃ c ∈ lbs sd, q = as c.1 c.2.1 c.2.2) ∨ sz ≤ q
def lw_g : List Jvm.Cond := lw_tbl.filter goodWord
def rmD (d : Nat) : Room := { frames := d, cells := 0, slots := 0, locals := 38 * d }
def wsM (mid : Nat) : List Jvm.Cond := .code (mY mid) (mC mid) (mN mid) (mR mid) :: lw_g
def Wl (sd : Bool) (D : va_G) (cs : Cs) (as : Ad) (σ : Sg) (A : Nat → Prop) (U : State) (H : Heap) : Prop := va_P D classes (conc sd cs as σ) H ∧ va_K D classes (tysOf cs) U ∧ va_D A (conc sd cs as σ)
def Bq (sd : Bool) (D : va_G) (cs : Cs) (as : Ad) (σ : Sg) (A : Nat → Prop) : Unit → State → Prop := fun _ t => Wl sd D cs as σ A t t.heap
def Qo (sd : Bool) (D : va_G) (cs : Cs) (as : Ad) (sz : Nat) (r : Option AV) (σ : Sg) : Array Value → State → Outcome → State → Prop := match r with
  | none => va_Qv (S := Unit) (fun _ => True) (Bq sd D cs as σ (Aof sd as sz)) (Aof sd as sz)
  | some (.inl x) => va_Qi (S := Unit) (fun y _ => y = x) (Bq sd D cs as σ (Aof sd as sz)) (Aof sd as sz)
  | some (.inr (.inl x)) => va_Ql (S := Unit) (fun y _ => y = x) (Bq sd D cs as σ (Aof sd as sz)) (Aof sd as sz)
  | some (.inr (.inr _)) => fun _ _ _ _ => False
def Po (sd : Bool) (D : va_G) (cs : Cs) (as : Ad) (σ : Sg) (sz : Nat) (vs : List AV) : Array Value → State → Prop := va_Pc (vs.map (cv as)) (fun U => U.heap.size = sz ∧ Wl sd D cs as σ (fun _ => True) U U.heap)
def Ev (sd : Bool) (mid : Nat) (vs : List AV) (σ : Sg) (r : Option AV) (σ' : Sg) : Prop := ∀ (l : Launch) (D : va_G) (cs : Cs) (as : Ad) (sz d : Nat), mH mid ≤ d → Met l (mY mid) (wsM mid) (rmD d) (Po sd D cs as σ sz vs) (Qo sd D cs as sz r σ') 0 0 (Aof sd as sz)
def pcM (mid i : Nat) : Nat := (pcAt (mD mid) i).getD 0
def Cx (mid : Nat) (p : Program) (s : State) (m : MethodId) (args : Array Value) (meth : Method) (c : Code) : Prop := p.tables.exec = Jvm.exec ∧ c.code = mC mid ∧ meth.sig.returnType = mR mid ∧ c.maxLocals = mN mid ∧ s.vm.findClass (mY mid).cls = some m.cls ∧ (∀ w ∈ lw_g, w.before args s = true) ∧ meth.locks = false
def Gd (sd : Bool) (mid : Nat) (r : Option AV) (σ' : Sg) (i : Nat) (L : Lc) (st : List AV) (σ : Sg) : Prop := ∀ (p : Program) (l : Launch) (e : Env) (s : State) (m : MethodId) (args : Array Value) (below : List Frame) (meth : Method) (c : Code) (H : Heap) (locs : List Loc) (ls : Array Slot) (D : va_G) (cs : Cs) (as : Ad) (d : Nat), mH mid ≤ d → Cx mid p s m args meth c → Wl sd D cs as σ (Aof sd as s.heap.size) s H → va_S (Aof sd as s.heap.size) s.heap H locs → hasL as ls (mN mid) L → W p l e (rmD d) s m args below meth c H locs 0 0 (MQ below (Qo sd D cs as s.heap.size r σ') args s 0 0 (Aof sd as s.heap.size)) (F0 m (pcM mid i) ls (st.map (cv as)))
def G (sd : Bool) (mid : Nat) (P : Option AV → Sg → Prop) (i : Nat) (L : Lc) (st : List AV) (σ : Sg) : Prop := ∃ r σ', P r σ' ∧ Gd sd mid r σ' i L st σ
theorem G_of {sd : Bool} {mid : Nat} {P : Option AV → Sg → Prop} {i i2 : Nat} {L L2 : Lc} {st st2 : List AV} {σ σ2 : Sg} (h : ∀ r σ', Gd sd mid r σ' i2 L2 st2 σ2 → Gd sd mid r σ' i L st σ) (k : G sd mid P i2 L2 st2 σ2) : G sd mid P i L st σ := by
  obtain ⟨r, σ', hp, hg⟩ := k
  exact ⟨r, σ', hp, h r σ' hg⟩
/-! what an instruction asks, as a computed statement -/
def rowP : Option (Nat × Nat) → Prop → Prop
  | none, p => p
  | some (a, b), p => a < b ∧ p
def arrC (sd : Bool) (k : Nat) (d : Bool) (i : Nat) : Option (Bool × Nat × Option (Nat × Nat)) := match shp k with
  | some (b, .inr (.inl (z, len))) => match i, inS sd k && (b || !d) with
    | 0, true => some (z, len d, none)
    | _, _ => none
  | some (b, .inr (.inr (n, len))) => match i, inS sd k && (b || !d) with
    | i' + 1, true => some (false, len d, some (i', n))
    | _, _ => none
  | _ => none
def gridC (sd : Bool) (k : Nat) (d : Bool) (i : Nat) : Option Nat := match shp k with
  | some (b, .inr (.inr (n, _))) => match i, inS sd k && (b || !d) with
    | 0, true => some n
    | _, _ => none
  | _ => none
def objC (sd : Bool) (k : Nat) (d : Bool) (i : Nat) : Option (Nat × List (Option (Nat × (Bool → Bool)))) := match shp k with
  | some (b, .inl (ci, fs)) => match i, inS sd k && (b || !d) with
    | 0, true => some (ci, fs)
    | _, _ => none
  | _ => none
def popA : Nat → List AV → List AV → Option (List AV × List AV)
  | 0, acc, st => some (acc, st)
  | n + 1, acc, v :: st => popA n (v :: acc) st
  | _ + 1, _, [] => none
def catS : List AV → Nat
  | [] => 0
  | .inr (.inl _) :: st => catS st + 2
  | _ :: st => catS st + 1
def swd (x : Int32) : List (Int32 × Nat) → Prop
  | [] => True
  | (v, _) :: ps => ¬ x = v ∧ swd x ps
def swt (x : Int32) (J : Nat → Prop) (dflt : Prop) : List (Int32 × Nat) → Prop
  | [] => dflt
  | (v, t) :: ps => (x = v → J t) ∧ swt x J dflt ps
def stS (L : Lc) (n : Nat) (v : AV) (k : Lc → Prop) : Prop := match noL L n && Nat.blt n L.length with
  | true => k (L.set n (some v))
  | false => False
def stS2 (L : Lc) (n : Nat) (v : AV) (k : Lc → Prop) : Prop := match noL L n && Nat.blt (n + 1) L.length with
  | true => k ((L.set n (some v)).set (n + 1) none)
  | false => False
def ldI (L : Lc) (n : Nat) (k : AV → Prop) : Prop := match L[n]? with
  | some (some (.inl x)) => k (.inl x)
  | _ => False
def ldJ (L : Lc) (n : Nat) (k : AV → Prop) : Prop := match L[n]? with
  | some (some (.inr (.inl x))) => k (.inr (.inl x))
  | _ => False
def ldR (L : Lc) (n : Nat) (k : AV → Prop) : Prop := match L[n]? with
  | some (some (.inr (.inr x))) => k (.inr (.inr x))
  | _ => False
def mAbs (x : Int32) : Int32 := if 0 ≤ x then x else 0 - x
def mMax (x y : Int32) : Int32 := if x < y then y else x
def mMin (x y : Int32) : Int32 := if y < x then y else x
def ushr (x y : Int32) : Int32 := (x.toUInt32 >>> (y.toUInt32 &&& Int32.toUInt32 31)).toInt32
def br (c : Jvm.ClassFile.Cond) (x y : Int32) (jt jf : Prop) : Prop := match c with
  | .eq => (x = y → jt) ∧ (¬ x = y → jf)
  | .ne => (¬ x = y → jt) ∧ (x = y → jf)
  | .lt => (x < y → jt) ∧ (¬ x < y → jf)
  | .ge => (y ≤ x → jt) ∧ (¬ y ≤ x → jf)
  | .gt => (y < x → jt) ∧ (¬ y < x → jf)
  | .le => (x ≤ y → jt) ∧ (¬ x ≤ y → jf)
def callSt (sd : Bool) (hg : Nat) (N : List AV → Sg → Prop) (a : Nat) (st : List AV) (σ : Sg) : Prop := match popA (mP a) [] st with
  | some (vs, rest) => match Nat.blt (mH a) hg && (Nat.blt a nM && Nat.ble (catS rest) 8) with
    | true => ∃ r σ1, Ev sd a vs σ r σ1 ∧ N (r.toList ++ rest) σ1
    | false => False
  | none => False
def mth1 (hg : Nat) (f : Int32 → Int32) (N : List AV → Prop) (st : List AV) : Prop := match st with
  | .inl x :: rest => match Nat.blt 0 hg && Nat.ble (catS rest) 8 with
    | true => N (.inl (f x) :: rest)
    | false => False
  | _ => False
def mth2 (hg : Nat) (f : Int32 → Int32 → Int32) (N : List AV → Prop) (st : List AV) : Prop := match st with
  | .inl y :: .inl x :: rest => match Nat.blt 0 hg && Nat.ble (catS rest) 8 with
    | true => N (.inl (f x y) :: rest)
    | false => False
  | _ => False
def stepw (sd : Bool) (hg : Nat) (rt : Option FieldType) (R : Option AV → Sg → Prop) (J : Nat → Lc → List AV → Sg → Prop) (N : Lc → List AV → Sg → Prop) (a b : Nat) (v : Int32) (ps : List (Int32 × Nat)) (L : Lc) (st : List AV) (σ : Sg) (ins : Instr) : Prop := match ins with
  | .iconst _ => N L (.inl v :: st) σ
  | .bipush _ => N L (.inl v :: st) σ
  | .sipush _ => N L (.inl v :: st) σ
  | .ldc _ => N L (.inl v :: st) σ
  | .ldc_w _ => N L (.inl v :: st) σ
  | .ldc2_w _ => N L (.inr (.inl v.toInt64) :: st) σ
  | .iload n => ldI L n fun x => N L (x :: st) σ
  | .iload_n n => ldI L n.val fun x => N L (x :: st) σ
  | .lload n => ldJ L n fun x => N L (x :: st) σ
  | .lload_n n => ldJ L n.val fun x => N L (x :: st) σ
  | .aload n => ldR L n fun x => N L (x :: st) σ
  | .aload_n n => ldR L n.val fun x => N L (x :: st) σ
  | .istore n => match st with
    | .inl x :: st' => ∃ y, x = y ∧ stS L n (.inl y) fun L' => N L' st' σ
    | _ => False
  | .istore_n n => match st with
    | .inl x :: st' => ∃ y, x = y ∧ stS L n.val (.inl y) fun L' => N L' st' σ
    | _ => False
  | .astore n => match st with
    | .inr (.inr x) :: st' => stS L n (.inr (.inr x)) fun L' => N L' st' σ
    | _ => False
  | .astore_n n => match st with
    | .inr (.inr x) :: st' => stS L n.val (.inr (.inr x)) fun L' => N L' st' σ
    | _ => False
  | .lstore n => match st with
    | .inr (.inl x) :: st' => stS2 L n (.inr (.inl x)) fun L' => N L' st' σ
    | _ => False
  | .lstore_n n => match st with
    | .inr (.inl x) :: st' => stS2 L n.val (.inr (.inl x)) fun L' => N L' st' σ
    | _ => False
  | .iinc n _ => match L[n]? with
    | some (some (.inl x)) => ∃ y, x + v = y ∧ stS L n (.inl y) fun L' => N L' st σ
    | _ => False
  | .iadd => match st with
    | .inl y :: .inl x :: st' => N L (.inl (x + y) :: st') σ
    | _ => False
  | .isub => match st with
    | .inl y :: .inl x :: st' => N L (.inl (x - y) :: st') σ
    | _ => False
  | .imul => match st with
    | .inl y :: .inl x :: st' => N L (.inl (x * y) :: st') σ
    | _ => False
  | .iand => match st with
    | .inl y :: .inl x :: st' => N L (.inl (x &&& y) :: st') σ
    | _ => False
  | .ior => match st with
    | .inl y :: .inl x :: st' => N L (.inl (x ||| y) :: st') σ
    | _ => False
  | .ishl => match st with
    | .inl y :: .inl x :: st' => N L (.inl (x <<< (y &&& 31)) :: st') σ
    | _ => False
  | .ishr => match st with
    | .inl y :: .inl x :: st' => N L (.inl (x >>> (y &&& 31)) :: st') σ
    | _ => False
  | .iushr => match st with
    | .inl y :: .inl x :: st' => N L (.inl (ushr x y) :: st') σ
    | _ => False
  | .idiv => match st with
    | .inl y :: .inl x :: st' => ¬ y = nI 0 ∧ N L (.inl (x / y) :: st') σ
    | _ => False
  | .irem => match st with
    | .inl y :: .inl x :: st' => ¬ y = nI 0 ∧ N L (.inl (x - x / y * y) :: st') σ
    | _ => False
  | .ineg => match st with
    | .inl x :: st' => N L (.inl (-x) :: st') σ
    | _ => False
  | .i2l => match st with
    | .inl x :: st' => N L (.inr (.inl x.toInt64) :: st') σ
    | _ => False
  | .ladd => match st with
    | .inr (.inl y) :: .inr (.inl x) :: st' => N L (.inr (.inl (x + y)) :: st') σ
    | _ => False
  | .lmul => match st with
    | .inr (.inl y) :: .inr (.inl x) :: st' => N L (.inr (.inl (x * y)) :: st') σ
    | _ => False
  | .goto _ => J a L st σ
  | .if_icmp c _ => match st with
    | .inl y :: .inl x :: st' => br c x y (J a L st' σ) (N L st' σ)
    | _ => False
  | .ifCond c _ => match st with
    | .inl x :: st' => br c x (nI 0) (J a L st' σ) (N L st' σ)
    | _ => False
  | .tableswitch _ _ _ _ => match st with
    | .inl x :: st' => swt x (fun t => J t L st' σ) (swd x ps → J a L st' σ) ps
    | _ => False
  | .lookupswitch _ _ => match st with
    | .inl x :: st' => swt x (fun t => J t L st' σ) (swd x ps → J a L st' σ) ps
    | _ => False
  | .dup => match st with
    | .inl x :: st' => N L (.inl x :: .inl x :: st') σ
    | .inr (.inr x) :: st' => N L (.inr (.inr x) :: .inr (.inr x) :: st') σ
    | _ => False
  | .dup2 => match st with
    | .inl x :: .inr (.inr y) :: st' => N L (.inl x :: .inr (.inr y) :: .inl x :: .inr (.inr y) :: st') σ
    | _ => False
  | .getfield _ => match st with
    | .inr (.inr (k, d, i)) :: st' => match objC sd k d i with
      | some (ci, fs) => match ci == a, fs[b]? with
        | true, some none => N L (.inl (σ k d i b) :: st') σ
        | true, some (some (k', g)) => N L (.inr (.inr (k', g d, 0)) :: st') σ
        | _, _ => False
      | none => False
    | _ => False
  | .putfield _ => match st with
    | .inl x :: .inr (.inr (k, d, i)) :: st' => match objC sd k d i with
      | some (ci, fs) => match ci == a, fs[b]? with
        | true, some none => ∃ y, x = y ∧ N L st' (up4 σ k d i b y)
        | _, _ => False
      | none => False
    | _ => False
  | .arraylength => match st with
    | .inr (.inr (k, d, i)) :: st' => match arrC sd k d i with
      | some (_, n, rw) => rowP rw (N L (.inl (nI n) :: st') σ)
      | none => match gridC sd k d i with
        | some n => N L (.inl (nI n) :: st') σ
        | none => False
    | _ => False
  | .iaload => match st with
    | .inl j :: .inr (.inr (k, d, i)) :: st' => match arrC sd k d i with
      | some (false, n, rw) => rowP rw (∃ q, j = nI q ∧ q < n ∧ N L (.inl (σ k d i q) :: st') σ)
      | _ => False
    | _ => False
  | .baload => match st with
    | .inl j :: .inr (.inr (k, d, i)) :: st' => match arrC sd k d i with
      | some (true, n, rw) => rowP rw (∃ q, j = nI q ∧ q < n ∧ N L (.inl (σ k d i q) :: st') σ)
      | _ => False
    | _ => False
  | .aaload => match st with
    | .inl j :: .inr (.inr (k, d, i)) :: st' => match gridC sd k d i with
      | some n => ∃ q, j = nI q ∧ q < n ∧ N L (.inr (.inr (k, d, q + 1)) :: st') σ
      | none => False
    | _ => False
  | .iastore => match st with
    | .inl x :: .inl j :: .inr (.inr (k, d, i)) :: st' => match arrC sd k d i with
      | some (false, n, rw) => rowP rw (∃ q, j = nI q ∧ q < n ∧ ∃ y, x = y ∧ N L st' (up4 σ k d i q y))
      | _ => False
    | _ => False
  | .bastore => match st with
    | .inl x :: .inl j :: .inr (.inr (k, d, i)) :: st' => match arrC sd k d i with
      | some (true, n, rw) => rowP rw (∃ q, j = nI q ∧ q < n ∧ ∃ y, vp_nar .boolean x = y ∧ N L st' (up4 σ k d i q y))
      | _ => False
    | _ => False
  | .invokestatic _ => match b with
    | 0 => callSt sd hg (fun st' σ' => N L st' σ') a st σ
    | 1 => mth1 hg mAbs (fun st' => N L st' σ) st
    | 2 => mth2 hg mMax (fun st' => N L st' σ) st
    | 3 => mth2 hg mMin (fun st' => N L st' σ) st
    | _ => False
  | .invokevirtual _ => match popA (mP a) [] st with
    | some (vs, .inr (.inr (k, d, i)) :: rest) => match objC sd k d i with
      | some (ci, _) => match Nat.blt (mH a) hg && (Nat.blt a nM && (Nat.ble (catS rest) 8 && ci == mK a)) with
        | true => ∃ r σ1, Ev sd a (.inr (.inr (k, d, i)) :: vs) σ r σ1 ∧ N L (r.toList ++ rest) σ1
        | false => False
      | none => False
    | _ => False
  | .ireturn => match st with
    | [.inl x] => match rt with
      | some .boolean => (x = nI 0 ∨ x = nI 1) ∧ R (some (.inl x)) σ
      | some .int => R (some (.inl x)) σ
      | _ => False
    | _ => False
  | .lreturn => match st with
    | [.inr (.inl x)] => match rt with
      | some .long => R (some (.inr (.inl x))) σ
      | _ => False
    | _ => False
  | .return_ => match st with
    | [] => match rt with
      | none => R none σ
      | _ => False
    | _ => False
  | _ => False
def wp (sd : Bool) (hg : Nat) (rt : Option FieldType) (te : Nat → Ent) (len : Nat) (P : Option AV → Sg → Prop) (K : Nat → Lc → List AV → Sg → Prop) (cuts : List Nat) : Nat → Nat → Lc → List AV → Sg → Prop
  | 0, i, L, st, σ => K i L st σ
  | n + 1, i, L, st, σ => match Nat.blt i len with
    | false => False
    | true => match te i with
      | (_, ins, a, b, v, ps, _) =>
        stepw sd hg rt P (fun t L' st' σ' => match cuts.contains t with
            | true => K t L' st' σ'
            | false => wp sd hg rt te len P K cuts n t L' st' σ')
          (fun L' st' σ' => match Nat.blt (i + 1) len, cuts.contains (i + 1) with
            | false, _ => False
            | true, true => K (i + 1) L' st' σ'
            | true, false => wp sd hg rt te len P K cuts n (i + 1) L' st' σ') a b v ps L st σ ins
