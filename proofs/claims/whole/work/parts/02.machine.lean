/-! ===== A LITTLE MACHINE over numbered cells: what it does, by program; part 03 says that the big one does the same ===== -/
/-- a memory: the cells (0, 1, 2: an array of ints, longs, booleans; 3 + c: an object of class c; 100: the script, the cell 0; how many places; of an object its references: 0 none, k + 1 the cell k), the ints, the longs -/
abbrev am_M : Type := List (Nat × Nat × List Nat) × (Nat → Nat → Int32) × (Nat → Nat → Int64)
/-- an instruction: its place in the bytes, itself, numbers that go with it, its constant -/
abbrev am_E : Type := Nat × Instr × List Nat × Int32 × Int64
/-- a method: own class, name, bytes, locals, answer's type, arguments (with the receiver), kind (0 static, 1 virtual, 2 constructor), class number, frames, locals' words, places of its words (code, static or instance, selects, initialized) -/
abbrev am_Y : Type := String × MethodName × ByteArray × Nat × Option FieldType × Nat × Nat × Nat × Nat × Nat × List Nat
def am_u {α : Type} (f : Nat → Nat → α) (k j : Nat) (v : α) : Nat → Nat → α := fun a b => if a = k then (if b = j then v else f a b) else f a b
def am_z {α : Type} (f : Nat → Nat → α) (k : Nat) (v : α) : Nat → Nat → α := fun a b => if a = k then v else f a b
def am_ty (ci j : Nat) : FieldType := match ci with
  | 0 => tyX0 j
  | 1 => tyX1 j
  | 2 => tyX2 j
  | 3 => tyX3 j
  | 4 => tyX4 j
  | 5 => tyX5 j
  | _ => tyX6 j
def am_all : List Prop → Prop
  | [] => True
  | [p] => p
  | p :: q :: r => p ∧ am_all (q :: r)
abbrev am_O : Type := Option (List Prop × Nat × List Value × List Value × am_M)
def am_pu (i : Nat) (ls st : List Value) (M : am_M) (v : Value) : am_O := some ([], i + 1, ls, v :: st, M)
def am_ild (k i : Nat) (ls st : List Value) (M : am_M) : am_O := match ls[k]? with
  | some (.int v) => some ([], i + 1, ls, .int v :: st, M)
  | _ => none
def am_ald (k i : Nat) (ls st : List Value) (M : am_M) : am_O := match ls[k]? with
  | some (.ref v) => some ([], i + 1, ls, .ref v :: st, M)
  | _ => none
def am_lld (k i : Nat) (ls st : List Value) (M : am_M) : am_O := match ls[k]? with
  | some (.long v) => match ls[k + 1]? with
    | some .null => some ([], i + 1, ls, .long v :: st, M)
    | _ => none
  | _ => none
def am_ist (k i : Nat) (ls st : List Value) (M : am_M) : am_O := match st with
  | .int v :: r => if k < ls.length then some ([], i + 1, ls.set k (.int v), r, M) else none
  | _ => none
def am_ast (k i : Nat) (ls st : List Value) (M : am_M) : am_O := match st with
  | .ref v :: r => if k < ls.length then some ([], i + 1, ls.set k (.ref v), r, M) else none
  | _ => none
def am_lst (k i : Nat) (ls st : List Value) (M : am_M) : am_O := match st with
  | .long v :: r => if k + 1 < ls.length then some ([], i + 1, (ls.set k (.long v)).set (k + 1) .null, r, M) else none
  | _ => none
def am_inc (k : Nat) (c : Int32) (i : Nat) (ls st : List Value) (M : am_M) : am_O := match ls[k]? with
  | some (.int v) => some ([], i + 1, ls.set k (.int (v + c)), st, M)
  | _ => none
def am_i2 (f : Int32 → Int32 → Int32) (i : Nat) (ls st : List Value) (M : am_M) : am_O := match st with
  | .int y :: .int x :: r => some ([], i + 1, ls, .int (f x y) :: r, M)
  | _ => none
def am_i2d (f : Int32 → Int32 → Int32) (i : Nat) (ls st : List Value) (M : am_M) : am_O := match st with
  | .int y :: .int x :: r => some ([¬ y = 0], i + 1, ls, .int (f x y) :: r, M)
  | _ => none
def am_l2 (f : Int64 → Int64 → Int64) (i : Nat) (ls st : List Value) (M : am_M) : am_O := match st with
  | .long y :: .long x :: r => some ([], i + 1, ls, .long (f x y) :: r, M)
  | _ => none
def am_l2d (f : Int64 → Int64 → Int64) (i : Nat) (ls st : List Value) (M : am_M) : am_O := match st with
  | .long y :: .long x :: r => some ([¬ y = 0], i + 1, ls, .long (f x y) :: r, M)
  | _ => none
def am_ls (f : Int64 → Int32 → Int64) (i : Nat) (ls st : List Value) (M : am_M) : am_O := match st with
  | .int y :: .long x :: r => some ([], i + 1, ls, .long (f x y) :: r, M)
  | _ => none
def am_b1 (x : List Nat) (f : Int32 → Bool) (i : Nat) (ls st : List Value) (M : am_M) : am_O := match st with
  | .int v :: r => some ([], (bif f v then x.headD 0 else i + 1), ls, r, M)
  | _ => none
def am_b2 (x : List Nat) (f : Int32 → Int32 → Bool) (i : Nat) (ls st : List Value) (M : am_M) : am_O := match st with
  | .int w :: .int v :: r => some ([], (bif f v w then x.headD 0 else i + 1), ls, r, M)
  | _ => none
/-- the branch of a lookupswitch -/
def am_lsw : List (Int × Int) → List Nat → Nat → Int → Nat
  | (k, _) :: ps, t :: ts, d, v => bif decide (v = k) then t else am_lsw ps ts d v
  | _, _, d, _ => d
def am_fld (M : am_M) (k ci j : Nat) (rs : List Nat) : Option Value := match am_ty ci j with
  | .int => some (.int (M.2.1 k j))
  | .boolean => some (.int (M.2.1 k j))
  | .long => some (.long (M.2.2 k j))
  | _ => match rs[j]? with
    | some (r + 1) => some (.ref r)
    | _ => none
def am_get (ci j i : Nat) (ls st : List Value) (M : am_M) : am_O := match st with
  | .ref k :: r => match M.1[k]? with
    | some (t, n, rs) => if t = ci + 3 ∧ j < n then (match am_fld M k ci j rs with
      | some v => some ([], i + 1, ls, v :: r, M)
      | none => none) else none
    | none => none
  | _ => none
def am_put (ci j i : Nat) (ls st : List Value) (M : am_M) : am_O := match st with
  | v :: .ref k :: r => match M.1[k]? with
    | some (t, n, rs) => if t = ci + 3 ∧ j < n ∧ rs.length = n then (match am_ty ci j with
      | .int => (match v with
        | .int y => some ([], i + 1, ls, r, (M.1, am_u M.2.1 k j y, M.2.2))
        | _ => none)
      | .boolean => (match v with
        | .int y => some ([y = 0 ∨ y = 1], i + 1, ls, r, (M.1, am_u M.2.1 k j y, M.2.2))
        | _ => none)
      | .long => (match v with
        | .long y => some ([], i + 1, ls, r, (M.1, M.2.1, am_u M.2.2 k j y))
        | _ => none)
      | .array _ => (match v with
        | .ref y => some ([], i + 1, ls, r, (M.1.set k (t, n, rs.set j (y + 1)), M.2.1, M.2.2))
        | _ => none)
      | .object _ => (match v with
        | .ref y => some ([], i + 1, ls, r, (M.1.set k (t, n, rs.set j (y + 1)), M.2.1, M.2.2))
        | _ => none)
      | _ => none) else none
    | none => none
  | _ => none
def am_iald (tag i : Nat) (ls st : List Value) (M : am_M) : am_O := match st with
  | .int j :: .ref k :: r => match M.1[k]? with
    | some (t, n, _) => if t = tag ∨ (tag = 0 ∧ t = 100) then some ([vp_in j n], i + 1, ls, .int (M.2.1 k j.toNatClampNeg) :: r, M) else none
    | none => none
  | _ => none
def am_lald (i : Nat) (ls st : List Value) (M : am_M) : am_O := match st with
  | .int j :: .ref k :: r => match M.1[k]? with
    | some (t, n, _) => if t = 1 then some ([vp_in j n], i + 1, ls, .long (M.2.2 k j.toNatClampNeg) :: r, M) else none
    | none => none
  | _ => none
def am_iast (i : Nat) (ls st : List Value) (M : am_M) : am_O := match st with
  | .int v :: .int j :: .ref k :: r => match M.1[k]? with
    | some (t, n, _) => if t = 0 then some ([vp_in j n], i + 1, ls, r, (M.1, am_u M.2.1 k j.toNatClampNeg v, M.2.2)) else none
    | none => none
  | _ => none
def am_zast (i : Nat) (ls st : List Value) (M : am_M) : am_O := match st with
  | .int v :: .int j :: .ref k :: r => match M.1[k]? with
    | some (t, n, _) => if t = 2 then some ([vp_in j n, vp_nar .boolean v = v], i + 1, ls, r, (M.1, am_u M.2.1 k j.toNatClampNeg v, M.2.2)) else none
    | none => none
  | _ => none
def am_last (i : Nat) (ls st : List Value) (M : am_M) : am_O := match st with
  | .long v :: .int j :: .ref k :: r => match M.1[k]? with
    | some (t, n, _) => if t = 1 then some ([vp_in j n], i + 1, ls, r, (M.1, M.2.1, am_u M.2.2 k j.toNatClampNeg v)) else none
    | none => none
  | _ => none
def am_len (i : Nat) (ls st : List Value) (M : am_M) : am_O := match st with
  | .ref k :: r => match M.1[k]? with
    | some (t, n, _) => if t < 3 ∨ t = 100 then some ([], i + 1, ls, .int (Int32.ofNat n) :: r, M) else none
    | none => none
  | _ => none
def am_new (ci n i : Nat) (ls st : List Value) (M : am_M) : am_O :=
  some ([], i + 1, ls, .ref M.1.length :: st, (M.1 ++ [(ci + 3, n, List.replicate n 0)], am_z M.2.1 M.1.length 0, am_z M.2.2 M.1.length 0))
def am_newa (tag i : Nat) (ls st : List Value) (M : am_M) : am_O := match st with
  | .int n :: r => some ([¬ n < 0, n.toNatClampNeg ≤ 10000], i + 1, ls, .ref M.1.length :: r, (M.1 ++ [(tag, n.toNatClampNeg, [])], am_z M.2.1 M.1.length 0, am_z M.2.2 M.1.length 0))
  | _ => none
def am_dup (i : Nat) (ls st : List Value) (M : am_M) : am_O := match st with
  | .int v :: r => some ([], i + 1, ls, .int v :: .int v :: r, M)
  | .ref v :: r => some ([], i + 1, ls, .ref v :: .ref v :: r, M)
  | _ => none
def am_dup2 (i : Nat) (ls st : List Value) (M : am_M) : am_O := match st with
  | .int v :: .ref w :: r => some ([], i + 1, ls, .int v :: .ref w :: .int v :: .ref w :: r, M)
  | _ => none
def am_pop (i : Nat) (ls st : List Value) (M : am_M) : am_O := match st with
  | .int _ :: r => some ([], i + 1, ls, r, M)
  | _ => none
def am_oini (i : Nat) (ls st : List Value) (M : am_M) : am_O := match st with
  | [.ref _] => some ([], i + 1, ls, [], M)
  | _ => none
/-- one instruction that is no call and no return -/
def am_stp (ins : Instr) (x : List Nat) (c : Int32) (d : Int64) (i : Nat) (ls st : List Value) (M : am_M) : am_O := match ins with
  | .iconst _ => am_pu i ls st M (.int c)
  | .bipush _ => am_pu i ls st M (.int c)
  | .sipush _ => am_pu i ls st M (.int c)
  | .ldc _ => am_pu i ls st M (.int c)
  | .ldc_w _ => am_pu i ls st M (.int c)
  | .lconst _ => am_pu i ls st M (.long d)
  | .ldc2_w _ => am_pu i ls st M (.long d)
  | .iload_n k => am_ild k.val i ls st M
  | .iload k => am_ild k i ls st M
  | .aload_n k => am_ald k.val i ls st M
  | .lload_n k => am_lld k.val i ls st M
  | .lload k => am_lld k i ls st M
  | .istore_n k => am_ist k.val i ls st M
  | .istore k => am_ist k i ls st M
  | .astore_n k => am_ast k.val i ls st M
  | .lstore_n k => am_lst k.val i ls st M
  | .lstore k => am_lst k i ls st M
  | .iinc k _ => am_inc k c i ls st M
  | .iadd => am_i2 (fun a b => a + b) i ls st M
  | .isub => am_i2 (fun a b => a - b) i ls st M
  | .imul => am_i2 (fun a b => a * b) i ls st M
  | .idiv => am_i2d (fun a b => a / b) i ls st M
  | .irem => am_i2d (fun a b => a - a / b * b) i ls st M
  | .iand => am_i2 (fun a b => a &&& b) i ls st M
  | .ior => am_i2 (fun a b => a ||| b) i ls st M
  | .ixor => am_i2 (fun a b => a ^^^ b) i ls st M
  | .ishl => am_i2 (fun a b => a <<< (b &&& 31)) i ls st M
  | .ishr => am_i2 (fun a b => a >>> (b &&& 31)) i ls st M
  | .iushr => am_i2 (fun a b => (a.toUInt32 >>> (b.toUInt32 &&& Int32.toUInt32 31)).toInt32) i ls st M
  | .ladd => am_l2 (fun a b => a + b) i ls st M
  | .lsub => am_l2 (fun a b => a - b) i ls st M
  | .ldiv => am_l2d (fun a b => a / b) i ls st M
  | .lrem => am_l2d (fun a b => a - a / b * b) i ls st M
  | .land => am_l2 (fun a b => a &&& b) i ls st M
  | .lor => am_l2 (fun a b => a ||| b) i ls st M
  | .lshl => am_ls (fun a b => a <<< (b.toInt64 &&& 63)) i ls st M
  | .lshr => am_ls (fun a b => a >>> (b.toInt64 &&& 63)) i ls st M
  | .lcmp => (match st with
    | .long y :: .long v :: r => some ([], i + 1, ls, .int (lg_cmp v y) :: r, M)
    | _ => none)
  | .i2l => (match st with
    | .int v :: r => some ([], i + 1, ls, .long v.toInt64 :: r, M)
    | _ => none)
  | .l2i => (match st with
    | .long v :: r => some ([], i + 1, ls, .int v.toInt32 :: r, M)
    | _ => none)
  | .dup => am_dup i ls st M
  | .dup2 => am_dup2 i ls st M
  | .pop => am_pop i ls st M
  | .goto _ => some ([], x.headD 0, ls, st, M)
  | .ifCond .eq _ => am_b1 x (fun v => decide (v = 0)) i ls st M
  | .ifCond .ne _ => am_b1 x (fun v => !decide (v = 0)) i ls st M
  | .ifCond .lt _ => am_b1 x (fun v => decide (v < 0)) i ls st M
  | .ifCond .ge _ => am_b1 x (fun v => decide (0 ≤ v)) i ls st M
  | .ifCond .gt _ => am_b1 x (fun v => decide (0 < v)) i ls st M
  | .ifCond .le _ => am_b1 x (fun v => decide (v ≤ 0)) i ls st M
  | .if_icmp .eq _ => am_b2 x (fun v w => decide (v = w)) i ls st M
  | .if_icmp .ne _ => am_b2 x (fun v w => !decide (v = w)) i ls st M
  | .if_icmp .lt _ => am_b2 x (fun v w => decide (v < w)) i ls st M
  | .if_icmp .ge _ => am_b2 x (fun v w => decide (w ≤ v)) i ls st M
  | .if_icmp .gt _ => am_b2 x (fun v w => decide (w < v)) i ls st M
  | .if_icmp .le _ => am_b2 x (fun v w => decide (v ≤ w)) i ls st M
  | .tableswitch _ lo hi _ => (match st with
    | .int v :: r => some ([], (bif decide (v.toInt < lo ∨ hi < v.toInt) then x.getD 1 0 else x.getD (2 + (v.toInt - lo).toNat) 0), ls, r, M)
    | _ => none)
  | .lookupswitch _ ps => (match st with
    | .int v :: r => some ([], am_lsw ps.toList (x.drop 2) (x.getD 1 0) v.toInt, ls, r, M)
    | _ => none)
  | .getfield _ => am_get (x.getD 0 0) (x.getD 1 0) i ls st M
  | .putfield _ => am_put (x.getD 0 0) (x.getD 1 0) i ls st M
  | .iaload => am_iald 0 i ls st M
  | .baload => am_iald 2 i ls st M
  | .laload => am_lald i ls st M
  | .iastore => am_iast i ls st M
  | .bastore => am_zast i ls st M
  | .lastore => am_last i ls st M
  | .arraylength => am_len i ls st M
  | .new _ => am_new (x.getD 0 0) (x.getD 1 0) i ls st M
  | .newarray .int => am_newa 0 i ls st M
  | .newarray .long => am_newa 1 i ls st M
  | .newarray .boolean => am_newa 2 i ls st M
  | .invokespecial _ => am_oini i ls st M
  | _ => none
/-- a return, a call, or else -/
def am_kind (ins : Instr) (x : List Nat) : Nat := match ins with
  | .ireturn => 1
  | .lreturn => 1
  | .areturn => 1
  | .return_ => 1
  | .invokestatic _ => 2
  | .invokevirtual _ => 2
  | .invokespecial _ => if x.headD 0 = 9999 then 0 else 2
  | _ => 0
def am_rt (ins : Instr) (ret : Option FieldType) (st : List Value) : Option (List Prop × Option Value) := match ins with
  | .return_ => (match ret with
    | none => (match st with
      | [] => some ([], none)
      | _ => none)
    | _ => none)
  | .ireturn => (match ret with
    | some .int => (match st with
      | [.int v] => some ([], some (.int v))
      | _ => none)
    | some .boolean => (match st with
      | [.int v] => some ([v = 0 ∨ v = 1], some (.int v))
      | _ => none)
    | _ => none)
  | .lreturn => (match ret with
    | some .long => (match st with
      | [.long v] => some ([], some (.long v))
      | _ => none)
    | _ => none)
  | .areturn => (match ret with
    | some (.object _) => (match st with
      | [.ref v] => some ([], some (.ref v))
      | _ => none)
    | _ => none)
  | _ => none
def am_arg : List Value → List Value
  | [] => []
  | v :: r => match v.category with
    | 2 => v :: .null :: am_arg r
    | _ => v :: am_arg r
def am_ent (as : List Value) (n : Nat) : List Value := am_arg as ++ List.replicate (n - (am_arg as).length) .null
noncomputable def am_if {α : Type} (p : Prop) (v : Option α) : Option α := @ite (Option α) p (Classical.propDecidable p) v none
theorem am_if_t {α : Type} {p : Prop} (h : p) (v : Option α) : am_if p v = v := by unfold am_if; rw [if_pos h]
theorem am_if_f {α : Type} {p : Prop} (h : ¬ p) (v : Option α) : am_if p v = none := by unfold am_if; rw [if_neg h]
theorem am_if_s {α : Type} {p : Prop} {v : Option α} {r : α} (h : am_if p v = some r) : p ∧ v = some r := by
  unfold am_if at h
  split at h
  · exact ⟨by assumption, h⟩
  · cases h
/-- a call: who, with what -/
def am_rcv (kind ci : Nat) (as : List Value) (M : am_M) : Bool := match kind with
  | 0 => true
  | _ => match as with
    | .ref k :: _ => match M.1[k]? with
      | some (t, _, _) => decide (t = ci + 3)
      | none => false
    | _ => false
def am_cat (st : List Value) : Nat := (st.map fun v => v.category).sum
section AMR
variable (CT : Nat → List am_E) (YT : Nat → am_Y)
noncomputable def am_run : Nat → Nat → Nat → List Value → List Value → am_M → Option (Option Value × am_M)
  | 0, _, _, _, _, _ => none
  | f + 1, mi, i, ls, st, M => match (CT mi)[i]? with
    | none => none
    | some e => match am_kind e.2.1 e.2.2.1 with
      | 0 => (match am_stp e.2.1 e.2.2.1 e.2.2.2.1 e.2.2.2.2 i ls st M with
        | none => none
        | some (ps, i', ls', st', M') => am_if (am_all ps) (am_run f mi i' ls' st' M'))
      | 1 => (match am_rt e.2.1 (YT mi).2.2.2.2.1 st with
        | none => none
        | some (ps, v) => am_if (am_all ps) (some (v, M)))
      | _ =>
        let y := YT (e.2.2.1.headD 0)
        let as := (st.take y.2.2.2.2.2.1).reverse
        let rest := st.drop y.2.2.2.2.2.1
        if as.length = y.2.2.2.2.2.1 ∧ (am_arg as).length ≤ y.2.2.2.1 ∧ am_rcv y.2.2.2.2.2.2.1 y.2.2.2.2.2.2.2.1 as M = true ∧ am_cat rest ≤ 8 then
          (match am_run f (e.2.2.1.headD 0) 0 (am_ent as y.2.2.2.1) [] M with
          | none => none
          | some (v, M') => am_run f mi (i + 1) ls (v.toList ++ rest) M')
        else none
end AMR
