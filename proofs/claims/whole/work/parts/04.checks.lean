/-! Decoding by the list of the bytes. -/
def decB : List UInt8 → Option Instr
  | [] => none
  | b :: r => match b.toNat with
    | 2 => some (.iconst (-1))
    | 3 => some (.iconst 0)
    | 4 => some (.iconst 1)
    | 5 => some (.iconst 2)
    | 6 => some (.iconst 3)
    | 7 => some (.iconst 4)
    | 8 => some (.iconst 5)
    | 16 => match r with
      | x0 :: _ => some (.bipush (Reader.signed 8 x0.toNat))
      | _ => none
    | 17 => match r with
      | x0 :: x1 :: _ => some (.sipush (Reader.signed 16 (x0.toNat * 256 + x1.toNat)))
      | _ => none
    | 18 => match r with
      | x0 :: _ => some (.ldc x0.toNat)
      | _ => none
    | 19 => match r with
      | x0 :: x1 :: _ => some (.ldc_w (x0.toNat * 256 + x1.toNat))
      | _ => none
    | 20 => match r with
      | x0 :: x1 :: _ => some (.ldc2_w (x0.toNat * 256 + x1.toNat))
      | _ => none
    | 21 => match r with
      | x0 :: _ => some (.iload x0.toNat)
      | _ => none
    | 22 => match r with
      | x0 :: _ => some (.lload x0.toNat)
      | _ => none
    | 26 => some (.iload_n 0)
    | 27 => some (.iload_n 1)
    | 28 => some (.iload_n 2)
    | 29 => some (.iload_n 3)
    | 30 => some (.lload_n 0)
    | 31 => some (.lload_n 1)
    | 32 => some (.lload_n 2)
    | 33 => some (.lload_n 3)
    | 42 => some (.aload_n 0)
    | 43 => some (.aload_n 1)
    | 44 => some (.aload_n 2)
    | 45 => some (.aload_n 3)
    | 46 => some .iaload
    | 50 => some .aaload
    | 51 => some .baload
    | 54 => match r with
      | x0 :: _ => some (.istore x0.toNat)
      | _ => none
    | 55 => match r with
      | x0 :: _ => some (.lstore x0.toNat)
      | _ => none
    | 59 => some (.istore_n 0)
    | 60 => some (.istore_n 1)
    | 61 => some (.istore_n 2)
    | 62 => some (.istore_n 3)
    | 63 => some (.lstore_n 0)
    | 64 => some (.lstore_n 1)
    | 65 => some (.lstore_n 2)
    | 66 => some (.lstore_n 3)
    | 75 => some (.astore_n 0)
    | 76 => some (.astore_n 1)
    | 77 => some (.astore_n 2)
    | 78 => some (.astore_n 3)
    | 79 => some .iastore
    | 84 => some .bastore
    | 89 => some .dup
    | 92 => some .dup2
    | 96 => some .iadd
    | 97 => some .ladd
    | 100 => some .isub
    | 104 => some .imul
    | 105 => some .lmul
    | 108 => some .idiv
    | 112 => some .irem
    | 116 => some .ineg
    | 120 => some .ishl
    | 122 => some .ishr
    | 124 => some .iushr
    | 126 => some .iand
    | 128 => some .ior
    | 132 => match r with
      | x0 :: x1 :: _ => some (.iinc x0.toNat (Reader.signed 8 x1.toNat))
      | _ => none
    | 133 => some .i2l
    | 153 => match r with
      | x0 :: x1 :: _ => some (.ifCond .eq (Reader.signed 16 (x0.toNat * 256 + x1.toNat)))
      | _ => none
    | 154 => match r with
      | x0 :: x1 :: _ => some (.ifCond .ne (Reader.signed 16 (x0.toNat * 256 + x1.toNat)))
      | _ => none
    | 155 => match r with
      | x0 :: x1 :: _ => some (.ifCond .lt (Reader.signed 16 (x0.toNat * 256 + x1.toNat)))
      | _ => none
    | 156 => match r with
      | x0 :: x1 :: _ => some (.ifCond .ge (Reader.signed 16 (x0.toNat * 256 + x1.toNat)))
      | _ => none
    | 157 => match r with
      | x0 :: x1 :: _ => some (.ifCond .gt (Reader.signed 16 (x0.toNat * 256 + x1.toNat)))
      | _ => none
    | 158 => match r with
      | x0 :: x1 :: _ => some (.ifCond .le (Reader.signed 16 (x0.toNat * 256 + x1.toNat)))
      | _ => none
    | 159 => match r with
      | x0 :: x1 :: _ => some (.if_icmp .eq (Reader.signed 16 (x0.toNat * 256 + x1.toNat)))
      | _ => none
    | 160 => match r with
      | x0 :: x1 :: _ => some (.if_icmp .ne (Reader.signed 16 (x0.toNat * 256 + x1.toNat)))
      | _ => none
    | 161 => match r with
      | x0 :: x1 :: _ => some (.if_icmp .lt (Reader.signed 16 (x0.toNat * 256 + x1.toNat)))
      | _ => none
    | 162 => match r with
      | x0 :: x1 :: _ => some (.if_icmp .ge (Reader.signed 16 (x0.toNat * 256 + x1.toNat)))
      | _ => none
    | 163 => match r with
      | x0 :: x1 :: _ => some (.if_icmp .gt (Reader.signed 16 (x0.toNat * 256 + x1.toNat)))
      | _ => none
    | 164 => match r with
      | x0 :: x1 :: _ => some (.if_icmp .le (Reader.signed 16 (x0.toNat * 256 + x1.toNat)))
      | _ => none
    | 167 => match r with
      | x0 :: x1 :: _ => some (.goto (Reader.signed 16 (x0.toNat * 256 + x1.toNat)))
      | _ => none
    | 172 => some .ireturn
    | 173 => some .lreturn
    | 177 => some .return_
    | 180 => match r with
      | x0 :: x1 :: _ => some (.getfield (x0.toNat * 256 + x1.toNat))
      | _ => none
    | 181 => match r with
      | x0 :: x1 :: _ => some (.putfield (x0.toNat * 256 + x1.toNat))
      | _ => none
    | 182 => match r with
      | x0 :: x1 :: _ => some (.invokevirtual (x0.toNat * 256 + x1.toNat))
      | _ => none
    | 184 => match r with
      | x0 :: x1 :: _ => some (.invokestatic (x0.toNat * 256 + x1.toNat))
      | _ => none
    | 190 => some .arraylength
    | _ => none
theorem rb {α β : Type} {x : Decoder α} {f : α → Decoder β} {code : ByteArray} {pc s : Nat} {a : α} (h : x code pc = .ok (a, s)) : (x >>= f) code pc = f a code s := by
  have e : (x >>= f) code pc = Except.bind (x code pc) (fun v => f v.1 code v.2) := rfl
  rw [e, h]
  rfl
theorem rd_u1 {code : ByteArray} {pc : Nat} {b : UInt8} {r : List UInt8} (h : code.data.toList.drop pc = b :: r) : (Reader.u1 : Decoder Nat) code pc = .ok (b.toNat, pc + 1) ∧ code.data.toList.drop (pc + 1) = r := by
  have h0 : code.data.toList[pc]? = some b := by
    have := congrArg (fun l => l[0]?) h
    simpa [List.getElem?_drop] using this
  have hlt : pc < code.size := by
    have := (List.getElem?_eq_some_iff.mp h0).1
    simpa using this
  have hget : code[pc] = b := by
    have h1 : code.data[pc]? = some b := by rw [← Array.getElem?_toList]; exact h0
    have h2 := (Array.getElem?_eq_some_iff.mp h1).2
    exact h2
  refine ⟨?_, ?_⟩
  · have e : (Reader.u1 : Decoder Nat) code pc = (if h : pc < code.size then (do set (pc + 1); Pure.pure code[pc].toNat : Decoder Nat) else throw (HasTruncated.truncated pc)) code pc := rfl
    rw [e, dif_pos hlt]
    show Except.ok (code[pc].toNat, pc + 1) = _
    rw [hget]
  · have := congrArg (List.drop 1) h
    rw [List.drop_drop] at this
    simpa using this
theorem rd_s1 {code : ByteArray} {pc : Nat} {b : UInt8} {r : List UInt8} (h : code.data.toList.drop pc = b :: r) : (Reader.s1 : Decoder Int) code pc = .ok (Reader.signed 8 b.toNat, pc + 1) := by
  have h1 := (rd_u1 h).1
  have e : (Reader.s1 : Decoder Int) code pc = Except.bind ((Reader.u1 : Decoder Nat) code pc) (fun v => .ok (Reader.signed 8 v.1, v.2)) := rfl
  rw [e, h1]
  rfl
theorem rd_u2 {code : ByteArray} {pc : Nat} {b c : UInt8} {r : List UInt8} (h : code.data.toList.drop pc = b :: c :: r) : (Reader.u2 : Decoder Nat) code pc = .ok (b.toNat * 256 + c.toNat, pc + 2) := by
  obtain ⟨h1, h2⟩ := rd_u1 h
  obtain ⟨h3, -⟩ := rd_u1 h2
  unfold Reader.u2
  rw [rb h1, rb h3]
  rfl
theorem rd_s2 {code : ByteArray} {pc : Nat} {b c : UInt8} {r : List UInt8} (h : code.data.toList.drop pc = b :: c :: r) : (Reader.s2 : Decoder Int) code pc = .ok (Reader.signed 16 (b.toNat * 256 + c.toNat), pc + 2) := by
  have h1 := rd_u2 h
  have e : (Reader.s2 : Decoder Int) code pc = Except.bind ((Reader.u2 : Decoder Nat) code pc) (fun v => .ok (Reader.signed 16 v.1, v.2)) := rfl
  rw [e, h1]
  rfl
theorem dec_run {code : ByteArray} {pc n : Nat} {ins : Instr} (h : Decoder.instr pc code pc = .ok (ins, pc + n)) : decode code pc = .ok (ins, n) := by
  have e : decode code pc = (Decoder.instr pc code pc >>= fun x => Pure.pure (x.1, x.2 - pc)) := rfl
  rw [e, h]
  show Except.ok (ins, pc + n - pc) = _
  rw [Nat.add_sub_cancel_left]
set_option maxRecDepth 4000 in
theorem dec_of {code : ByteArray} {pc : Nat} {ins : Instr} (h : decB (code.data.toList.drop pc) = some ins) : decode code pc = .ok (ins, lenOf ins) := by
  refine dec_run ?_
  unfold decB at h
  split at h
  next => cases h
  next b r hl =>
    obtain ⟨r1, hl1⟩ := rd_u1 hl
    unfold Decoder.instr
    rw [rb r1]
    split at h
    next heq => cases h; rw [heq]; rfl
    next heq => cases h; rw [heq]; rfl
    next heq => cases h; rw [heq]; rfl
    next heq => cases h; rw [heq]; rfl
    next heq => cases h; rw [heq]; rfl
    next heq => cases h; rw [heq]; rfl
    next heq => cases h; rw [heq]; rfl
    next heq =>
      split at h
      next x0 r2 =>
        cases h
        rw [heq]
        show ((Reader.s1 : Decoder Int) >>= fun x => Pure.pure (Instr.bipush x)) code (pc + 1) = _
        rw [rb (rd_s1 hl1)]
        rfl
      next => cases h
    next heq =>
      split at h
      next x0 x1 r2 =>
        cases h
        rw [heq]
        show ((Reader.s2 : Decoder Int) >>= fun x => Pure.pure (Instr.sipush x)) code (pc + 1) = _
        rw [rb (rd_s2 hl1)]
        rfl
      next => cases h
    next heq =>
      split at h
      next x0 r2 =>
        cases h
        rw [heq]
        show ((Reader.u1 : Decoder Nat) >>= fun x => Pure.pure (Instr.ldc x)) code (pc + 1) = _
        rw [rb ((rd_u1 hl1).1)]
        rfl
      next => cases h
    next heq =>
      split at h
      next x0 x1 r2 =>
        cases h
        rw [heq]
        show ((Reader.u2 : Decoder Nat) >>= fun x => Pure.pure (Instr.ldc_w x)) code (pc + 1) = _
        rw [rb (rd_u2 hl1)]
        rfl
      next => cases h
    next heq =>
      split at h
      next x0 x1 r2 =>
        cases h
        rw [heq]
        show ((Reader.u2 : Decoder Nat) >>= fun x => Pure.pure (Instr.ldc2_w x)) code (pc + 1) = _
        rw [rb (rd_u2 hl1)]
        rfl
      next => cases h
    next heq =>
      split at h
      next x0 r2 =>
        cases h
        rw [heq]
        show ((Reader.u1 : Decoder Nat) >>= fun x => Pure.pure (Instr.iload x)) code (pc + 1) = _
        rw [rb ((rd_u1 hl1).1)]
        rfl
      next => cases h
    next heq =>
      split at h
      next x0 r2 =>
        cases h
        rw [heq]
        show ((Reader.u1 : Decoder Nat) >>= fun x => Pure.pure (Instr.lload x)) code (pc + 1) = _
        rw [rb ((rd_u1 hl1).1)]
        rfl
      next => cases h
    next heq => cases h; rw [heq]; rfl
    next heq => cases h; rw [heq]; rfl
    next heq => cases h; rw [heq]; rfl
    next heq => cases h; rw [heq]; rfl
    next heq => cases h; rw [heq]; rfl
    next heq => cases h; rw [heq]; rfl
    next heq => cases h; rw [heq]; rfl
    next heq => cases h; rw [heq]; rfl
    next heq => cases h; rw [heq]; rfl
    next heq => cases h; rw [heq]; rfl
    next heq => cases h; rw [heq]; rfl
    next heq => cases h; rw [heq]; rfl
    next heq => cases h; rw [heq]; rfl
    next heq => cases h; rw [heq]; rfl
    next heq => cases h; rw [heq]; rfl
    next heq =>
      split at h
      next x0 r2 =>
        cases h
        rw [heq]
        show ((Reader.u1 : Decoder Nat) >>= fun x => Pure.pure (Instr.istore x)) code (pc + 1) = _
        rw [rb ((rd_u1 hl1).1)]
        rfl
      next => cases h
    next heq =>
      split at h
      next x0 r2 =>
        cases h
        rw [heq]
        show ((Reader.u1 : Decoder Nat) >>= fun x => Pure.pure (Instr.lstore x)) code (pc + 1) = _
        rw [rb ((rd_u1 hl1).1)]
        rfl
      next => cases h
    next heq => cases h; rw [heq]; rfl
    next heq => cases h; rw [heq]; rfl
    next heq => cases h; rw [heq]; rfl
    next heq => cases h; rw [heq]; rfl
    next heq => cases h; rw [heq]; rfl
    next heq => cases h; rw [heq]; rfl
    next heq => cases h; rw [heq]; rfl
    next heq => cases h; rw [heq]; rfl
    next heq => cases h; rw [heq]; rfl
    next heq => cases h; rw [heq]; rfl
    next heq => cases h; rw [heq]; rfl
    next heq => cases h; rw [heq]; rfl
    next heq => cases h; rw [heq]; rfl
    next heq => cases h; rw [heq]; rfl
    next heq => cases h; rw [heq]; rfl
    next heq => cases h; rw [heq]; rfl
    next heq => cases h; rw [heq]; rfl
    next heq => cases h; rw [heq]; rfl
    next heq => cases h; rw [heq]; rfl
    next heq => cases h; rw [heq]; rfl
    next heq => cases h; rw [heq]; rfl
    next heq => cases h; rw [heq]; rfl
    next heq => cases h; rw [heq]; rfl
    next heq => cases h; rw [heq]; rfl
    next heq => cases h; rw [heq]; rfl
    next heq => cases h; rw [heq]; rfl
    next heq => cases h; rw [heq]; rfl
    next heq => cases h; rw [heq]; rfl
    next heq => cases h; rw [heq]; rfl
    next heq =>
      split at h
      next x0 x1 r2 =>
        cases h
        rw [heq]
        obtain ⟨q1, q2⟩ := rd_u1 hl1
        have q3 := rd_s1 q2
        show ((Reader.u1 : Decoder Nat) >>= fun x => (Reader.s1 : Decoder Int) >>= fun y => Pure.pure (Instr.iinc x y)) code (pc + 1) = _
        rw [rb q1, rb q3]
        rfl
      next => cases h
    next heq => cases h; rw [heq]; rfl
    next heq =>
      split at h
      next x0 x1 r2 =>
        cases h
        rw [heq]
        show ((Reader.s2 : Decoder Int) >>= fun x => Pure.pure (Instr.ifCond .eq x)) code (pc + 1) = _
        rw [rb (rd_s2 hl1)]
        rfl
      next => cases h
    next heq =>
      split at h
      next x0 x1 r2 =>
        cases h
        rw [heq]
        show ((Reader.s2 : Decoder Int) >>= fun x => Pure.pure (Instr.ifCond .ne x)) code (pc + 1) = _
        rw [rb (rd_s2 hl1)]
        rfl
      next => cases h
    next heq =>
      split at h
      next x0 x1 r2 =>
        cases h
        rw [heq]
        show ((Reader.s2 : Decoder Int) >>= fun x => Pure.pure (Instr.ifCond .lt x)) code (pc + 1) = _
        rw [rb (rd_s2 hl1)]
        rfl
      next => cases h
    next heq =>
      split at h
      next x0 x1 r2 =>
        cases h
        rw [heq]
        show ((Reader.s2 : Decoder Int) >>= fun x => Pure.pure (Instr.ifCond .ge x)) code (pc + 1) = _
        rw [rb (rd_s2 hl1)]
        rfl
      next => cases h
    next heq =>
      split at h
      next x0 x1 r2 =>
        cases h
        rw [heq]
        show ((Reader.s2 : Decoder Int) >>= fun x => Pure.pure (Instr.ifCond .gt x)) code (pc + 1) = _
        rw [rb (rd_s2 hl1)]
        rfl
      next => cases h
    next heq =>
      split at h
      next x0 x1 r2 =>
        cases h
        rw [heq]
        show ((Reader.s2 : Decoder Int) >>= fun x => Pure.pure (Instr.ifCond .le x)) code (pc + 1) = _
        rw [rb (rd_s2 hl1)]
        rfl
      next => cases h
    next heq =>
      split at h
      next x0 x1 r2 =>
        cases h
        rw [heq]
        show ((Reader.s2 : Decoder Int) >>= fun x => Pure.pure (Instr.if_icmp .eq x)) code (pc + 1) = _
        rw [rb (rd_s2 hl1)]
        rfl
      next => cases h
    next heq =>
      split at h
      next x0 x1 r2 =>
        cases h
        rw [heq]
        show ((Reader.s2 : Decoder Int) >>= fun x => Pure.pure (Instr.if_icmp .ne x)) code (pc + 1) = _
        rw [rb (rd_s2 hl1)]
        rfl
      next => cases h
    next heq =>
      split at h
      next x0 x1 r2 =>
        cases h
        rw [heq]
        show ((Reader.s2 : Decoder Int) >>= fun x => Pure.pure (Instr.if_icmp .lt x)) code (pc + 1) = _
        rw [rb (rd_s2 hl1)]
        rfl
      next => cases h
    next heq =>
      split at h
      next x0 x1 r2 =>
        cases h
        rw [heq]
        show ((Reader.s2 : Decoder Int) >>= fun x => Pure.pure (Instr.if_icmp .ge x)) code (pc + 1) = _
        rw [rb (rd_s2 hl1)]
        rfl
      next => cases h
    next heq =>
      split at h
      next x0 x1 r2 =>
        cases h
        rw [heq]
        show ((Reader.s2 : Decoder Int) >>= fun x => Pure.pure (Instr.if_icmp .gt x)) code (pc + 1) = _
        rw [rb (rd_s2 hl1)]
        rfl
      next => cases h
    next heq =>
      split at h
      next x0 x1 r2 =>
        cases h
        rw [heq]
        show ((Reader.s2 : Decoder Int) >>= fun x => Pure.pure (Instr.if_icmp .le x)) code (pc + 1) = _
        rw [rb (rd_s2 hl1)]
        rfl
      next => cases h
    next heq =>
      split at h
      next x0 x1 r2 =>
        cases h
        rw [heq]
        show ((Reader.s2 : Decoder Int) >>= fun x => Pure.pure (Instr.goto x)) code (pc + 1) = _
        rw [rb (rd_s2 hl1)]
        rfl
      next => cases h
    next heq => cases h; rw [heq]; rfl
    next heq => cases h; rw [heq]; rfl
    next heq => cases h; rw [heq]; rfl
    next heq =>
      split at h
      next x0 x1 r2 =>
        cases h
        rw [heq]
        show ((Reader.u2 : Decoder Nat) >>= fun x => Pure.pure (Instr.getfield x)) code (pc + 1) = _
        rw [rb (rd_u2 hl1)]
        rfl
      next => cases h
    next heq =>
      split at h
      next x0 x1 r2 =>
        cases h
        rw [heq]
        show ((Reader.u2 : Decoder Nat) >>= fun x => Pure.pure (Instr.putfield x)) code (pc + 1) = _
        rw [rb (rd_u2 hl1)]
        rfl
      next => cases h
    next heq =>
      split at h
      next x0 x1 r2 =>
        cases h
        rw [heq]
        show ((Reader.u2 : Decoder Nat) >>= fun x => Pure.pure (Instr.invokevirtual x)) code (pc + 1) = _
        rw [rb (rd_u2 hl1)]
        rfl
      next => cases h
    next heq =>
      split at h
      next x0 x1 r2 =>
        cases h
        rw [heq]
        show ((Reader.u2 : Decoder Nat) >>= fun x => Pure.pure (Instr.invokestatic x)) code (pc + 1) = _
        rw [rb (rd_u2 hl1)]
        rfl
      next => cases h
    next heq => cases h; rw [heq]; rfl
    next => cases h
def hdPc (pc : Nat) : List Ent → Nat
  | [] => pc
  | e :: _ => e.1
def chkW : List UInt8 → List Ent → Bool
  | _, [] => true
  | l, (pc, ins, _) :: r => (isSw ins || decide (decB l = some ins)) && (Nat.ble pc (hdPc pc r) && chkW (l.drop (hdPc pc r - pc)) r)
def metOk (mid : Nat) : Bool := infOk mid && (chkW (mC mid).data.toList (mD mid) && (List.range (mD mid).length).all (entOk mid (mD mid)))
theorem chkW_spec {B : List UInt8} : ∀ {cd : List Ent} {l : List UInt8} {p0 : Nat}, l = B.drop p0 → hdPc p0 cd = p0 → chkW l cd = true → ∀ (i : Nat) (x : Ent), cd[i]? = some x → isSw x.2.1 = false → decB (B.drop x.1) = some x.2.1
  | [], _, _, _, _, _, i, x, hx, _ => by simp at hx
  | (pc, ins, y) :: r, l, p0, hl, hp, h, i, x, hx, hs => by
    have hp : pc = p0 := hp
    subst hp
    simp only [chkW, Bool.and_eq_true, Bool.or_eq_true, decide_eq_true_eq] at h
    obtain ⟨h1, h2, h3⟩ := h
    have h2 := Nat.le_of_ble_eq_true h2
    cases i with
    | zero =>
      cases hx
      rcases h1 with h1 | h1
      · rw [show isSw ins = false from hs] at h1
        cases h1
      · rw [← hl]; exact h1
    | succ i =>
      refine chkW_spec (cd := r) (p0 := hdPc pc r) ?_ ?_ h3 i x hx hs
      · rw [hl, List.drop_drop]
        congr 1
        omega
      · cases r <;> rfl
theorem mk0 : (List.range' 0 8).all metOk = true := by decide +kernel
theorem mk8 : (List.range' 8 11).all metOk = true := by decide +kernel
theorem mk19 : (List.range' 19 8).all metOk = true := by decide +kernel
theorem mk27 : (List.range' 27 10).all metOk = true := by decide +kernel
theorem mk37 : (List.range' 37 10).all metOk = true := by decide +kernel
theorem mk47 : (List.range' 47 10).all metOk = true := by decide +kernel
theorem mk57 : (List.range' 57 5).all metOk = true := by decide +kernel
theorem mk62 : (List.range' 62 7).all metOk = true := by decide +kernel
theorem mk69 : (List.range' 69 5).all metOk = true := by decide +kernel
theorem mk74 : (List.range' 74 6).all metOk = true := by decide +kernel
theorem mk80 : (List.range' 80 5).all metOk = true := by decide +kernel
theorem mk85 : (List.range' 85 5).all metOk = true := by decide +kernel
theorem mk90 : (List.range' 90 7).all metOk = true := by decide +kernel
theorem mk97 : (List.range' 97 8).all metOk = true := by decide +kernel
theorem mk105 : (List.range' 105 8).all metOk = true := by decide +kernel
theorem mk113 : (List.range' 113 3).all metOk = true := by decide +kernel
theorem mk116 : (List.range' 116 2).all metOk = true := by decide +kernel
theorem mk118 : (List.range' 118 7).all metOk = true := by decide +kernel
theorem mk125 : (List.range' 125 4).all metOk = true := by decide +kernel
theorem mk129 : (List.range' 129 4).all metOk = true := by decide +kernel
theorem mk133 : (List.range' 133 5).all metOk = true := by decide +kernel
theorem mk138 : (List.range' 138 1).all metOk = true := by decide +kernel
theorem mk139 : (List.range' 139 2).all metOk = true := by decide +kernel
theorem mk141 : (List.range' 141 7).all metOk = true := by decide +kernel
theorem mk148 : (List.range' 148 2).all metOk = true := by decide +kernel
theorem mk150 : (List.range' 150 4).all metOk = true := by decide +kernel
theorem mk154 : (List.range' 154 2).all metOk = true := by decide +kernel
theorem mk156 : (List.range' 156 1).all metOk = true := by decide +kernel
theorem mk157 : (List.range' 157 1).all metOk = true := by decide +kernel
theorem mk158 : (List.range' 158 1).all metOk = true := by decide +kernel
theorem mk159 : (List.range' 159 4).all metOk = true := by decide +kernel
theorem mk163 : (List.range' 163 2).all metOk = true := by decide +kernel
theorem mk165 : (List.range' 165 6).all metOk = true := by decide +kernel
theorem mk171 : (List.range' 171 3).all metOk = true := by decide +kernel
theorem mk174 : (List.range' 174 4).all metOk = true := by decide +kernel
theorem mk178 : (List.range' 178 3).all metOk = true := by decide +kernel
theorem mk181 : (List.range' 181 8).all metOk = true := by decide +kernel
theorem mk189 : (List.range' 189 1).all metOk = true := by decide +kernel
theorem mk190 : (List.range' 190 2).all metOk = true := by decide +kernel
theorem mk192 : (List.range' 192 1).all metOk = true := by decide +kernel
theorem mk193 : (List.range' 193 3).all metOk = true := by decide +kernel
theorem mk196 : (List.range' 196 5).all metOk = true := by decide +kernel
theorem mk201 : (List.range' 201 9).all metOk = true := by decide +kernel
theorem mk210 : (List.range' 210 7).all metOk = true := by decide +kernel
theorem mk217 : (List.range' 217 1).all metOk = true := by decide +kernel
theorem mk218 : (List.range' 218 8).all metOk = true := by decide +kernel
theorem mk226 : (List.range' 226 1).all metOk = true := by decide +kernel
theorem mk227 : (List.range' 227 2).all metOk = true := by decide +kernel
theorem met_ok {mid : Nat} (h : mid < nM) : metOk mid = true := by
  have h : mid < 229 := h
  rcases Nat.lt_or_ge mid 8 with q | q
  · exact List.all_eq_true.mp mk0 mid (List.mem_range'.mpr ⟨mid - 0, by omega, by omega⟩)
  rcases Nat.lt_or_ge mid 19 with q | q
  · exact List.all_eq_true.mp mk8 mid (List.mem_range'.mpr ⟨mid - 8, by omega, by omega⟩)
  rcases Nat.lt_or_ge mid 27 with q | q
  · exact List.all_eq_true.mp mk19 mid (List.mem_range'.mpr ⟨mid - 19, by omega, by omega⟩)
  rcases Nat.lt_or_ge mid 37 with q | q
  · exact List.all_eq_true.mp mk27 mid (List.mem_range'.mpr ⟨mid - 27, by omega, by omega⟩)
  rcases Nat.lt_or_ge mid 47 with q | q
  · exact List.all_eq_true.mp mk37 mid (List.mem_range'.mpr ⟨mid - 37, by omega, by omega⟩)
  rcases Nat.lt_or_ge mid 57 with q | q
  · exact List.all_eq_true.mp mk47 mid (List.mem_range'.mpr ⟨mid - 47, by omega, by omega⟩)
  rcases Nat.lt_or_ge mid 62 with q | q
  · exact List.all_eq_true.mp mk57 mid (List.mem_range'.mpr ⟨mid - 57, by omega, by omega⟩)
  rcases Nat.lt_or_ge mid 69 with q | q
  · exact List.all_eq_true.mp mk62 mid (List.mem_range'.mpr ⟨mid - 62, by omega, by omega⟩)
  rcases Nat.lt_or_ge mid 74 with q | q
  · exact List.all_eq_true.mp mk69 mid (List.mem_range'.mpr ⟨mid - 69, by omega, by omega⟩)
  rcases Nat.lt_or_ge mid 80 with q | q
  · exact List.all_eq_true.mp mk74 mid (List.mem_range'.mpr ⟨mid - 74, by omega, by omega⟩)
  rcases Nat.lt_or_ge mid 85 with q | q
  · exact List.all_eq_true.mp mk80 mid (List.mem_range'.mpr ⟨mid - 80, by omega, by omega⟩)
  rcases Nat.lt_or_ge mid 90 with q | q
  · exact List.all_eq_true.mp mk85 mid (List.mem_range'.mpr ⟨mid - 85, by omega, by omega⟩)
  rcases Nat.lt_or_ge mid 97 with q | q
  · exact List.all_eq_true.mp mk90 mid (List.mem_range'.mpr ⟨mid - 90, by omega, by omega⟩)
  rcases Nat.lt_or_ge mid 105 with q | q
  · exact List.all_eq_true.mp mk97 mid (List.mem_range'.mpr ⟨mid - 97, by omega, by omega⟩)
  rcases Nat.lt_or_ge mid 113 with q | q
  · exact List.all_eq_true.mp mk105 mid (List.mem_range'.mpr ⟨mid - 105, by omega, by omega⟩)
  rcases Nat.lt_or_ge mid 116 with q | q
  · exact List.all_eq_true.mp mk113 mid (List.mem_range'.mpr ⟨mid - 113, by omega, by omega⟩)
  rcases Nat.lt_or_ge mid 118 with q | q
  · exact List.all_eq_true.mp mk116 mid (List.mem_range'.mpr ⟨mid - 116, by omega, by omega⟩)
  rcases Nat.lt_or_ge mid 125 with q | q
  · exact List.all_eq_true.mp mk118 mid (List.mem_range'.mpr ⟨mid - 118, by omega, by omega⟩)
  rcases Nat.lt_or_ge mid 129 with q | q
  · exact List.all_eq_true.mp mk125 mid (List.mem_range'.mpr ⟨mid - 125, by omega, by omega⟩)
  rcases Nat.lt_or_ge mid 133 with q | q
  · exact List.all_eq_true.mp mk129 mid (List.mem_range'.mpr ⟨mid - 129, by omega, by omega⟩)
  rcases Nat.lt_or_ge mid 138 with q | q
  · exact List.all_eq_true.mp mk133 mid (List.mem_range'.mpr ⟨mid - 133, by omega, by omega⟩)
  rcases Nat.lt_or_ge mid 139 with q | q
  · exact List.all_eq_true.mp mk138 mid (List.mem_range'.mpr ⟨mid - 138, by omega, by omega⟩)
  rcases Nat.lt_or_ge mid 141 with q | q
  · exact List.all_eq_true.mp mk139 mid (List.mem_range'.mpr ⟨mid - 139, by omega, by omega⟩)
  rcases Nat.lt_or_ge mid 148 with q | q
  · exact List.all_eq_true.mp mk141 mid (List.mem_range'.mpr ⟨mid - 141, by omega, by omega⟩)
  rcases Nat.lt_or_ge mid 150 with q | q
  · exact List.all_eq_true.mp mk148 mid (List.mem_range'.mpr ⟨mid - 148, by omega, by omega⟩)
  rcases Nat.lt_or_ge mid 154 with q | q
  · exact List.all_eq_true.mp mk150 mid (List.mem_range'.mpr ⟨mid - 150, by omega, by omega⟩)
  rcases Nat.lt_or_ge mid 156 with q | q
  · exact List.all_eq_true.mp mk154 mid (List.mem_range'.mpr ⟨mid - 154, by omega, by omega⟩)
  rcases Nat.lt_or_ge mid 157 with q | q
  · exact List.all_eq_true.mp mk156 mid (List.mem_range'.mpr ⟨mid - 156, by omega, by omega⟩)
  rcases Nat.lt_or_ge mid 158 with q | q
  · exact List.all_eq_true.mp mk157 mid (List.mem_range'.mpr ⟨mid - 157, by omega, by omega⟩)
  rcases Nat.lt_or_ge mid 159 with q | q
  · exact List.all_eq_true.mp mk158 mid (List.mem_range'.mpr ⟨mid - 158, by omega, by omega⟩)
  rcases Nat.lt_or_ge mid 163 with q | q
  · exact List.all_eq_true.mp mk159 mid (List.mem_range'.mpr ⟨mid - 159, by omega, by omega⟩)
  rcases Nat.lt_or_ge mid 165 with q | q
  · exact List.all_eq_true.mp mk163 mid (List.mem_range'.mpr ⟨mid - 163, by omega, by omega⟩)
  rcases Nat.lt_or_ge mid 171 with q | q
  · exact List.all_eq_true.mp mk165 mid (List.mem_range'.mpr ⟨mid - 165, by omega, by omega⟩)
  rcases Nat.lt_or_ge mid 174 with q | q
  · exact List.all_eq_true.mp mk171 mid (List.mem_range'.mpr ⟨mid - 171, by omega, by omega⟩)
  rcases Nat.lt_or_ge mid 178 with q | q
  · exact List.all_eq_true.mp mk174 mid (List.mem_range'.mpr ⟨mid - 174, by omega, by omega⟩)
  rcases Nat.lt_or_ge mid 181 with q | q
  · exact List.all_eq_true.mp mk178 mid (List.mem_range'.mpr ⟨mid - 178, by omega, by omega⟩)
  rcases Nat.lt_or_ge mid 189 with q | q
  · exact List.all_eq_true.mp mk181 mid (List.mem_range'.mpr ⟨mid - 181, by omega, by omega⟩)
  rcases Nat.lt_or_ge mid 190 with q | q
  · exact List.all_eq_true.mp mk189 mid (List.mem_range'.mpr ⟨mid - 189, by omega, by omega⟩)
  rcases Nat.lt_or_ge mid 192 with q | q
  · exact List.all_eq_true.mp mk190 mid (List.mem_range'.mpr ⟨mid - 190, by omega, by omega⟩)
  rcases Nat.lt_or_ge mid 193 with q | q
  · exact List.all_eq_true.mp mk192 mid (List.mem_range'.mpr ⟨mid - 192, by omega, by omega⟩)
  rcases Nat.lt_or_ge mid 196 with q | q
  · exact List.all_eq_true.mp mk193 mid (List.mem_range'.mpr ⟨mid - 193, by omega, by omega⟩)
  rcases Nat.lt_or_ge mid 201 with q | q
  · exact List.all_eq_true.mp mk196 mid (List.mem_range'.mpr ⟨mid - 196, by omega, by omega⟩)
  rcases Nat.lt_or_ge mid 210 with q | q
  · exact List.all_eq_true.mp mk201 mid (List.mem_range'.mpr ⟨mid - 201, by omega, by omega⟩)
  rcases Nat.lt_or_ge mid 217 with q | q
  · exact List.all_eq_true.mp mk210 mid (List.mem_range'.mpr ⟨mid - 210, by omega, by omega⟩)
  rcases Nat.lt_or_ge mid 218 with q | q
  · exact List.all_eq_true.mp mk217 mid (List.mem_range'.mpr ⟨mid - 217, by omega, by omega⟩)
  rcases Nat.lt_or_ge mid 226 with q | q
  · exact List.all_eq_true.mp mk218 mid (List.mem_range'.mpr ⟨mid - 218, by omega, by omega⟩)
  rcases Nat.lt_or_ge mid 227 with q | q
  · exact List.all_eq_true.mp mk226 mid (List.mem_range'.mpr ⟨mid - 226, by omega, by omega⟩)
  exact List.all_eq_true.mp mk227 mid (List.mem_range'.mpr ⟨mid - 227, by omega, by omega⟩)
theorem ent_dec {mid i : Nat} {x : Ent} (hm : mid < nM) (he : (mD mid)[i]? = some x) (hs : isSw x.2.1 = false) : decode (mC mid) x.1 = .ok (x.2.1, lenOf x.2.1) := by
  have h := met_ok hm
  unfold metOk at h
  simp only [Bool.and_eq_true] at h
  have h0 : pcAt (mD mid) 0 = some 0 := by
    have h1 := h.1
    unfold infOk at h1
    simp only [Bool.and_eq_true, decide_eq_true_eq] at h1
    exact h1.2.2.2.2.2.2.2.2
  refine dec_of (chkW_spec (p0 := 0) rfl ?_ h.2.1 i x he hs)
  cases hc : mD mid with
  | nil => rfl
  | cons e r => rw [hc] at h0; exact Option.some.inj h0
