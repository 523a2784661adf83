/-! 10.machine: a small machine over a store of the program's own cells.
A value .ref k is the store's k-th cell, .retAddr _ the law's script. A cell: an int array (length, contents), an array of int arrays (length, rows), an object (number of its class, fields).
An entry of a method's code: instruction, length, and three numbers a, q, z that say what it links:
getfield, putfield: a the class's number, q the field's slot; new: a the class's number;
invokes: a = 1 Math.max, 2 Math.min, 3 Math.abs, 4 System.arraycopy, 5 Object's constructor; 10 + k: method k of the table, q how many arguments (with the receiver), z the number of the receiver's class, and 100 more where the link is a nest mate's (of a field: 1).
A method of the table: name, bytes, locals, what it returns, how many parameters, its class's number, its entries. -/
abbrev ma_C : Type := (Nat × (Nat → Int32)) ⊕ ((Nat × (Nat → Option Nat)) ⊕ (Nat × List Value))
abbrev ma_S : Type := List ma_C
abbrev ma_I : Type := Instr × Nat × Nat × Nat × Nat
abbrev ma_M : Type := MethodName × ByteArray × Nat × Option FieldType × Nat × Nat × List (Nat × ma_I)
/-- pc, locals, stack, store, cells made, slots made -/
abbrev ma_F : Type := Nat × List (Option Value) × List Value × ma_S × Nat × Nat
abbrev ma_R : Type := Option ma_F
def ma_tg (pc : Nat) (off : Int) : Option Nat := if 0 ≤ (pc : Int) + off then some ((pc : Int) + off).toNat else none
def ma_go (f : ma_F) (n : Nat) (st : List Value) : ma_R := some (f.1 + n, f.2.1, st, f.2.2.2)
def ma_br (f : ma_F) (c : Bool) (off : Int) (st : List Value) : ma_R := match ma_tg f.1 off with
  | some t => some (if c then t else f.1 + 3, f.2.1, st, f.2.2.2)
  | none => none
def ma_jp (f : ma_F) (off : Int) (st : List Value) : ma_R := match ma_tg f.1 off with
  | some t => some (t, f.2.1, st, f.2.2.2)
  | none => none
def ma_ild (f : ma_F) (j n : Nat) : ma_R := match f.2.1[j]? with
  | some (some (.int x)) => ma_go f n (.int x :: f.2.2.1)
  | _ => none
def ma_ald (f : ma_F) (j n : Nat) : ma_R := match f.2.1[j]? with
  | some (some (.ref x)) => ma_go f n (.ref x :: f.2.2.1)
  | some (some (.retAddr x)) => ma_go f n (.retAddr x :: f.2.2.1)
  | _ => none
def ma_sto (f : ma_F) (j n : Nat) (v : Value) (st : List Value) : ma_R := if j < f.2.1.length then some (f.1 + n, f.2.1.set j (some v), st, f.2.2.2) else none
def ma_out (i : Int32) (n : Nat) : Bool := decide (i < 0) || decide (n ≤ i.toNatClampNeg)
def ma_df (d : String) : Value := if d = "I" then .int 0 else .null
/-- what a field of this descriptor may take -/
def ma_vt (d : String) (v : Value) : Bool := match v with
  | .int _ => d == "I"
  | .ref _ => d != "I"
  | .null => d != "I"
  | _ => false
def ma_max (x y : Int32) : Int32 := if x < y then y else x
def ma_min (x y : Int32) : Int32 := if y < x then y else x
def ma_abs (x : Int32) : Int32 := if 0 ≤ x then x else 0 - x
/-- System.arraycopy of ints -/
def ma_cp (f : ma_F) (n dp : Int32) (a1 : Nat) (sp : Int32) (a0 : Nat) (st : List Value) : ma_R := match f.2.2.2.1[a0]?, f.2.2.2.1[a1]? with
  | some (.inl (n0, g0)), some (.inl (n1, g1)) =>
    if sp < 0 ∨ dp < 0 ∨ n < 0 ∨ n0 < sp.toNatClampNeg + n.toNatClampNeg ∨ n1 < dp.toNatClampNeg + n.toNatClampNeg then none
    else some (f.1 + 3, f.2.1, st, f.2.2.2.1.set a1 (.inl (n1, va_cpy g0 g1 sp.toNatClampNeg dp.toNatClampNeg n.toNatClampNeg)), f.2.2.2.2)
  | _, _ => none
/-- calls of the library: by the entry's first number; d: frames left -/
def ma_lib (f : ma_F) (d a : Nat) : ma_R := match d with
  | 0 => none
  | _ + 1 => match a, f.2.2.1 with
    | 1, .int y :: .int x :: st => if 8 < st.length then none else ma_go f 3 (.int (ma_max x y) :: st)
    | 2, .int y :: .int x :: st => if 8 < st.length then none else ma_go f 3 (.int (ma_min x y) :: st)
    | 3, .int x :: st => if 8 < st.length then none else ma_go f 3 (.int (ma_abs x) :: st)
    | 4, .int n :: .int dp :: .ref a1 :: .int sp :: .ref a0 :: st => if 8 < st.length then none else ma_cp f n dp a1 sp a0 st
    | _, _ => none
def ma_one (cls : List vw_C) (scr : Nat × (Nat → Int32)) (d : Nat) (i : ma_I) (f : ma_F) : ma_R := match i.1 with
  | .iconst v => ma_go f 1 (.int (Int32.ofInt v) :: f.2.2.1)
  | .bipush v => ma_go f 2 (.int (Int8.ofInt v).toInt32 :: f.2.2.1)
  | .sipush v => ma_go f 3 (.int (Int16.ofInt v).toInt32 :: f.2.2.1)
  | .iload_n j => ma_ild f j 1
  | .iload j => ma_ild f j 2
  | .aload_n j => ma_ald f j 1
  | .aload j => ma_ald f j 2
  | .istore_n j => match f.2.2.1 with
    | .int x :: st => ma_sto f j 1 (.int x) st
    | _ => none
  | .istore j => match f.2.2.1 with
    | .int x :: st => ma_sto f j 2 (.int x) st
    | _ => none
  | .astore_n j => match f.2.2.1 with
    | .ref x :: st => ma_sto f j 1 (.ref x) st
    | _ => none
  | .astore j => match f.2.2.1 with
    | .ref x :: st => ma_sto f j 2 (.ref x) st
    | _ => none
  | .iinc j v => match f.2.1[j]? with
    | some (some (.int x)) => ma_sto f j 3 (.int (x + Int32.ofInt v)) f.2.2.1
    | _ => none
  | .iadd => match f.2.2.1 with
    | .int y :: .int x :: st => ma_go f 1 (.int (x + y) :: st)
    | _ => none
  | .isub => match f.2.2.1 with
    | .int y :: .int x :: st => ma_go f 1 (.int (x - y) :: st)
    | _ => none
  | .imul => match f.2.2.1 with
    | .int y :: .int x :: st => ma_go f 1 (.int (x * y) :: st)
    | _ => none
  | .iand => match f.2.2.1 with
    | .int y :: .int x :: st => ma_go f 1 (.int (x &&& y) :: st)
    | _ => none
  | .ixor => match f.2.2.1 with
    | .int y :: .int x :: st => ma_go f 1 (.int (x ^^^ y) :: st)
    | _ => none
  | .idiv => match f.2.2.1 with
    | .int y :: .int x :: st => if y = 0 then none else ma_go f 1 (.int (x / y) :: st)
    | _ => none
  | .irem => match f.2.2.1 with
    | .int y :: .int x :: st => if y = 0 then none else ma_go f 1 (.int (x - x / y * y) :: st)
    | _ => none
  | .ineg => match f.2.2.1 with
    | .int x :: st => ma_go f 1 (.int (-x) :: st)
    | _ => none
  | .dup => match f.2.2.1 with
    | v :: st => ma_go f 1 (v :: v :: st)
    | _ => none
  | .dup2 => match f.2.2.1 with
    | v :: w :: st => ma_go f 1 (v :: w :: v :: w :: st)
    | _ => none
  | .dup_x1 => match f.2.2.1 with
    | v :: w :: st => ma_go f 1 (v :: w :: v :: st)
    | _ => none
  | .pop => match f.2.2.1 with
    | _ :: st => ma_go f 1 st
    | _ => none
  | .ifCond .eq o => match f.2.2.1 with
    | .int x :: st => ma_br f (decide (x = 0)) o st
    | _ => none
  | .ifCond .ne o => match f.2.2.1 with
    | .int x :: st => ma_br f (decide (¬ x = 0)) o st
    | _ => none
  | .ifCond .lt o => match f.2.2.1 with
    | .int x :: st => ma_br f (decide (x < 0)) o st
    | _ => none
  | .ifCond .ge o => match f.2.2.1 with
    | .int x :: st => ma_br f (decide (0 ≤ x)) o st
    | _ => none
  | .ifCond .gt o => match f.2.2.1 with
    | .int x :: st => ma_br f (decide (0 < x)) o st
    | _ => none
  | .ifCond .le o => match f.2.2.1 with
    | .int x :: st => ma_br f (decide (x ≤ 0)) o st
    | _ => none
  | .if_icmp .eq o => match f.2.2.1 with
    | .int y :: .int x :: st => ma_br f (decide (x = y)) o st
    | _ => none
  | .if_icmp .ne o => match f.2.2.1 with
    | .int y :: .int x :: st => ma_br f (decide (¬ x = y)) o st
    | _ => none
  | .if_icmp .lt o => match f.2.2.1 with
    | .int y :: .int x :: st => ma_br f (decide (x < y)) o st
    | _ => none
  | .if_icmp .ge o => match f.2.2.1 with
    | .int y :: .int x :: st => ma_br f (decide (y ≤ x)) o st
    | _ => none
  | .if_icmp .gt o => match f.2.2.1 with
    | .int y :: .int x :: st => ma_br f (decide (y < x)) o st
    | _ => none
  | .if_icmp .le o => match f.2.2.1 with
    | .int y :: .int x :: st => ma_br f (decide (x ≤ y)) o st
    | _ => none
  | .goto o => ma_jp f o f.2.2.1
  | .tableswitch df lo hi os => match f.2.2.1 with
    | .int x :: st => if x.toInt < lo ∨ hi < x.toInt then ma_jp f df st else match os[(x.toInt - lo).toNat]? with
      | some o => ma_jp f o st
      | none => none
    | _ => none
  | .lookupswitch df ps => match f.2.2.1 with
    | .int x :: st => ma_jp f (Op.lookupswitch.offset ps.toList df x.toInt) st
    | _ => none
  | .getfield _ => match f.2.2.1 with
    | .ref o :: st => match f.2.2.2.1[o]? with
      | some (.inr (.inr (ci, fs))) => if ci = i.2.2.1 then match fs[i.2.2.2.1]? with
        | some v => ma_go f 3 (v :: st)
        | none => none else none
      | _ => none
    | _ => none
  | .putfield _ => match f.2.2.1 with
    | v :: .ref o :: st => match f.2.2.2.1[o]?, cls[i.2.2.1]? with
      | some (.inr (.inr (ci, fs))), some (_, T, _) =>
        if ci = i.2.2.1 ∧ i.2.2.2.1 < fs.length ∧ ma_vt (T i.2.2.2.1).2.2.1 v = true then some (f.1 + 3, f.2.1, st, f.2.2.2.1.set o (.inr (.inr (ci, fs.set i.2.2.2.1 v))), f.2.2.2.2) else none
      | _, _ => none
    | _ => none
  | .iaload => match f.2.2.1 with
    | .int j :: .ref o :: st => match f.2.2.2.1[o]? with
      | some (.inl (n, g)) => if ma_out j n then none else ma_go f 1 (.int (g j.toNatClampNeg) :: st)
      | _ => none
    | .int j :: .retAddr _ :: st => if ma_out j scr.1 then none else ma_go f 1 (.int (scr.2 j.toNatClampNeg) :: st)
    | _ => none
  | .iastore => match f.2.2.1 with
    | .int x :: .int j :: .ref o :: st => match f.2.2.2.1[o]? with
      | some (.inl (n, g)) => if ma_out j n then none else some (f.1 + 1, f.2.1, st, f.2.2.2.1.set o (.inl (n, upd g j.toNatClampNeg x)), f.2.2.2.2)
      | _ => none
    | _ => none
  | .aaload => match f.2.2.1 with
    | .int j :: .ref o :: st => match f.2.2.2.1[o]? with
      | some (.inr (.inl (n, g))) => if ma_out j n then none else match g j.toNatClampNeg with
        | some r => ma_go f 1 (.ref r :: st)
        | none => none
      | _ => none
    | _ => none
  | .arraylength => match f.2.2.1 with
    | .ref o :: st => match f.2.2.2.1[o]? with
      | some (.inl (n, _)) => ma_go f 1 (.int (Int32.ofNat n) :: st)
      | _ => none
    | .retAddr _ :: st => ma_go f 1 (.int (Int32.ofNat scr.1) :: st)
    | _ => none
  | .newarray .int => match f.2.2.1 with
    | .int n :: st => if n < 0 ∨ 65536 < n.toNatClampNeg then none else some (f.1 + 2, f.2.1, .ref f.2.2.2.1.length :: st, f.2.2.2.1 ++ [.inl (n.toNatClampNeg, fun _ => 0)], f.2.2.2.2.1 + 1, f.2.2.2.2.2 + n.toNatClampNeg)
    | _ => none
  | .multianewarray _ 2 => match f.2.2.1 with
    | .int k :: .int n :: st => if n < 0 ∨ k < 0 ∨ 65536 < n.toNatClampNeg ∨ 65536 < k.toNatClampNeg then none
      else some (f.1 + 4, f.2.1, .ref f.2.2.2.1.length :: st, f.2.2.2.1 ++ .inr (.inl (n.toNatClampNeg, fun j => if j < n.toNatClampNeg then some (f.2.2.2.1.length + 1 + j) else none)) :: List.replicate n.toNatClampNeg (.inl (k.toNatClampNeg, fun _ => 0)),
        f.2.2.2.2.1 + 1 + n.toNatClampNeg, f.2.2.2.2.2 + n.toNatClampNeg + n.toNatClampNeg * k.toNatClampNeg)
    | _ => none
  | .new _ => match cls[i.2.2.1]? with
    | some (_, T, N) => some (f.1 + 3, f.2.1, .ref f.2.2.2.1.length :: f.2.2.1, f.2.2.2.1 ++ [.inr (.inr (i.2.2.1, (List.range N).map fun j => ma_df (T j).2.2.1))], f.2.2.2.2.1 + 1, f.2.2.2.2.2 + N)
    | none => none
  | .invokestatic _ => ma_lib f d i.2.2.1
  | .invokespecial _ => match d, f.2.2.1 with
    | _ + 1, .ref _ :: st => if i.2.2.1 = 5 ∧ st.length ≤ 8 then ma_go f 3 st else none
    | _, _ => none
  | _ => none
/-- a return: what comes back -/
def ma_rt (ret : Option FieldType) (i : ma_I) (f : ma_F) : Option (Option Value) := match i.1 with
  | .ireturn => match f.2.2.1, ret with
    | [.int x], some .int => some (some (.int x))
    | [.int x], some .boolean => if x = 0 ∨ x = 1 then some (some (.int x)) else none
    | _, _ => none
  | .return_ => match f.2.2.1, ret with
    | [], none => some none
    | _, _ => none
  | _ => none
def ma_isr (j : Instr) : Bool := match j with
  | .ireturn => true
  | .return_ => true
  | _ => false
/-- a call of a method of the table: its number -/
def ma_callee (i : ma_I) : Option Nat := match i.1 with
  | .invokestatic _ => if 10 ≤ i.2.2.1 then some (i.2.2.1 - 10) else none
  | .invokevirtual _ => if 10 ≤ i.2.2.1 then some (i.2.2.1 - 10) else none
  | .invokespecial _ => if 10 ≤ i.2.2.1 then some (i.2.2.1 - 10) else none
  | _ => none
/-- may the receiver (of a virtual call) be called so -/
def ma_rcv (i : ma_I) (as : List Value) (σ : ma_S) : Bool := match i.1 with
  | .invokevirtual _ => match as with
    | .ref o :: _ => match σ[o]? with
      | some (.inr (.inr (ci, _))) => decide (ci = i.2.2.2.2 % 100)
      | _ => false
    | _ => false
  | .invokespecial _ => match as with
    | .ref _ :: _ => true
    | _ => false
  | _ => true
def ma_in (my : ma_M) (as : List Value) (σ : ma_S) : ma_F := (0, as.map some ++ List.replicate (my.2.2.1 - as.length) none, [], σ, 0, 0)
def ma_ex (cls : List vw_C) (P : List ma_M) (scr : Nat × (Nat → Int32)) : Nat → Nat → Nat → ma_F → Option (Option Value × ma_S × Nat × Nat)
  | 0, _, _, _ => none
  | n + 1, d, mi, f => match P[mi]? with
    | none => none
    | some mt => match mt.2.2.2.2.2.2.lookup f.1 with
      | none => none
      | some i => match ma_callee i with
        | some cy => match d with
          | 0 => none
          | d' + 1 => match P[cy]? with
            | none => none
            | some my =>
              if f.2.2.1.length < i.2.2.2.1 ∨ 8 + i.2.2.2.1 < f.2.2.1.length ∨ my.2.2.1 < i.2.2.2.1 ∨ ma_rcv i (f.2.2.1.take i.2.2.2.1).reverse f.2.2.2.1 = false then none
              else match ma_ex cls P scr n d' cy (ma_in my (f.2.2.1.take i.2.2.2.1).reverse f.2.2.2.1) with
                | none => none
                | some (r, σ, mc, ms) => ma_ex cls P scr n (d' + 1) mi (f.1 + 3, f.2.1, r.toList ++ f.2.2.1.drop i.2.2.2.1, σ, f.2.2.2.2.1 + mc, f.2.2.2.2.2 + ms)
        | none => if ma_isr i.1 = true then match ma_rt mt.2.2.2.1 i f with
            | none => none
            | some r => some (r, f.2.2.2)
          else match ma_one cls scr d i f with
            | none => none
            | some f' => ma_ex cls P scr n d mi f'
