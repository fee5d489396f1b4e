/-! ===== the small machine: the code's own steps over numbers =====
A cell's shape: an object (class number, its fields: none an int that stands in the memory, some r a reference r), an array of ints or booleans (type number, length), an array of longs (length), an array of references (type number, what they are). References are places in the list of shapes. -/
abbrev sm_S : Type := (Nat × List (Option (Option Nat))) ⊕ ((Nat × Nat) ⊕ (Nat ⊕ (Nat × List (Option Nat))))
abbrev sm_M : Type := Nat → Nat → Int32
abbrev sm_J : Type := Nat → Nat → Int64
/-- shapes, ints, longs, how many cells and slots are left -/
abbrev sm_H : Type := List sm_S × sm_M × sm_J × Nat × Nat
abbrev sm_L : Type := List (Option Value)
/-- where a method stands: pc, locals, operands, memory -/
abbrev sm_P : Type := Nat × sm_L × List Value × sm_H
/-- an answer, or the number of what is thrown -/
abbrev sm_O : Type := Option Value ⊕ Nat
def sm_up (M : sm_M) (k i : Nat) (v : Int32) : sm_M := fun a => if a = k then upd (M k) i v else M a
def sm_uf (M : sm_M) (k : Nat) (f : Nat → Int32) : sm_M := fun a => if a = k then f else M a
def sm_uj (J : sm_J) (k i : Nat) (v : Int64) : sm_J := fun a => if a = k then vp_updL (J k) i v else J a
/-- what the class files say, by a method's number and a pc or an entry: the instruction; a field (class number, place, 0 int 1 boolean 2 reference); a class to make (class number, its fields); a class of references (type number); a callee (kind, method, how many values it takes); whether a method throws at once, by its arguments and the memory (what, cells, slots); where a throwing call is caught (what, then the pc behind the store, the local) -/
abbrev sm_T : Type := (Nat → Nat → Option Instr) × (Nat → Nat → Option (Nat × Nat × Nat)) × (Nat → Nat → Option (Nat × List (Option (Option Nat)))) × (Nat → Nat → Option Nat) × (Nat → Nat → Option (Nat × Nat × Nat)) × (Nat → List Value → sm_H → Option (Nat × Nat × Nat)) × (Nat → Nat → Nat → Option (Option (Nat × Nat))) × (Nat → Nat × Nat × Nat)
abbrev sm_ins (T : sm_T) := T.1
abbrev sm_fld (T : sm_T) := T.2.1
abbrev sm_cls (T : sm_T) := T.2.2.1
abbrev sm_arr (T : sm_T) := T.2.2.2.1
abbrev sm_cal (T : sm_T) := T.2.2.2.2.1
abbrev sm_thr (T : sm_T) := T.2.2.2.2.2.1
abbrev sm_cat (T : sm_T) := T.2.2.2.2.2.2.1
abbrev sm_nL (T : sm_T) := T.2.2.2.2.2.2.2
def sm_len : Instr → Nat
  | .bipush _ => 2
  | .sipush _ => 3
  | .iload _ => 2
  | .aload _ => 2
  | .istore _ => 2
  | .astore _ => 2
  | .iinc _ _ => 3
  | .ifCond _ _ => 3
  | .if_icmp _ _ => 3
  | .goto _ => 3
  | .getfield _ => 3
  | .putfield _ => 3
  | .newarray _ => 2
  | .anewarray _ => 3
  | .new _ => 3
  | .invokespecial _ => 3
  | .invokestatic _ => 3
  | .invokevirtual _ => 3
  | _ => 1
def sm_jmp (pc : Nat) (off : Int) (L : sm_L) (S : List Value) (h : sm_H) : Option sm_P := if 0 ≤ (pc : Int) + off then some (((pc : Int) + off).toNat, L, S, h) else none
def sm_lint (pc : Nat) (L : sm_L) (S : List Value) (h : sm_H) (i : Nat) : Option sm_P := match L[i]? with
  | some (some (.int x)) => some (pc, L, .int x :: S, h)
  | _ => none
def sm_lref (pc : Nat) (L : sm_L) (S : List Value) (h : sm_H) (i : Nat) : Option sm_P := match L[i]? with
  | some (some (.ref x)) => some (pc, L, .ref x :: S, h)
  | some (some (.retAddr x)) => some (pc, L, .retAddr x :: S, h)
  | _ => none
def sm_sint (pc : Nat) (L : sm_L) (S : List Value) (h : sm_H) (i : Nat) : Option sm_P := match S with
  | .int x :: r => some (pc, L.set i (some (.int x)), r, h)
  | _ => none
def sm_sref (pc : Nat) (L : sm_L) (S : List Value) (h : sm_H) (i : Nat) : Option sm_P := match S with
  | .ref x :: r => some (pc, L.set i (some (.ref x)), r, h)
  | _ => none
def sm_inc (pc : Nat) (L : sm_L) (S : List Value) (h : sm_H) (i : Nat) (n : Int) : Option sm_P := match L[i]? with
  | some (some (.int x)) => some (pc, L.set i (some (.int (x + Int32.ofInt n))), S, h)
  | _ => none
def sm_bin (pc : Nat) (L : sm_L) (S : List Value) (h : sm_H) (f : Int32 → Int32 → Int32) : Option sm_P := match S with
  | .int y :: .int x :: r => some (pc, L, .int (f x y) :: r, h)
  | _ => none
def sm_cnd (c : ClassFile.Cond) (x y : Int32) : Prop := match c with
  | .eq => x = y
  | .ne => ¬ x = y
  | .lt => x < y
  | .ge => y ≤ x
  | .gt => y < x
  | .le => x ≤ y
def sm_dec (c : ClassFile.Cond) (x y : Int32) : Decidable (sm_cnd c x y) := match c with
  | .eq => inferInstanceAs (Decidable (x = y))
  | .ne => inferInstanceAs (Decidable (¬ x = y))
  | .lt => inferInstanceAs (Decidable (x < y))
  | .ge => inferInstanceAs (Decidable (y ≤ x))
  | .gt => inferInstanceAs (Decidable (y < x))
  | .le => inferInstanceAs (Decidable (x ≤ y))
def sm_sel (c : ClassFile.Cond) (x y : Int32) (a b : Nat) : Nat := @ite _ (sm_cnd c x y) (sm_dec c x y) a b
def sm_tgt (pc : Nat) (off : Int) : Nat := ((pc : Int) + off).toNat
def sm_br (pc : Nat) (off : Int) (L : sm_L) (S : List Value) (h : sm_H) (c : ClassFile.Cond) : Option sm_P := match S with
  | .int x :: r => if 0 ≤ (pc : Int) + off then some (sm_sel c x 0 (sm_tgt pc off) (pc + 3), L, r, h) else none
  | _ => none
def sm_br2 (pc : Nat) (off : Int) (L : sm_L) (S : List Value) (h : sm_H) (c : ClassFile.Cond) : Option sm_P := match S with
  | .int y :: .int x :: r => if 0 ≤ (pc : Int) + off then some (sm_sel c x y (sm_tgt pc off) (pc + 3), L, r, h) else none
  | _ => none
def sm_get (pc : Nat) (L : sm_L) (S : List Value) (h : sm_H) (f : Option (Nat × Nat × Nat)) : Option sm_P := match f, S with
  | some (ci, k, _), .ref q :: r => match h.1[q]? with
    | some (.inl (cj, fs)) => if ci = cj then match fs[k]? with
      | some none => some (pc, L, .int (h.2.1 q k) :: r, h)
      | some (some (some z)) => some (pc, L, .ref z :: r, h)
      | _ => none else none
    | _ => none
  | _, _ => none
def sm_put (pc : Nat) (L : sm_L) (S : List Value) (h : sm_H) (f : Option (Nat × Nat × Nat)) : Option sm_P := match f, S with
  | some (ci, k, b), .int x :: .ref q :: r => match h.1[q]? with
    | some (.inl (cj, fs)) => if ci = cj ∧ fs[k]? = some none ∧ (b = 0 ∨ b = 1 ∧ (x = 0 ∨ x = 1)) then some (pc, L, r, h.1, sm_up h.2.1 q k x, h.2.2) else none
    | _ => none
  | some (ci, k, b), .ref z :: .ref q :: r => match h.1[q]? with
    | some (.inl (cj, fs)) => if ci = cj ∧ b = 2 ∧ fs[k]?.map Option.isSome = some true then some (pc, L, r, h.1.set q (.inl (cj, fs.set k (some (some z)))), h.2) else none
    | _ => none
  | _, _ => none
/-- ints (type number 0) and booleans (1) by their own instructions; 2 is long -/
def sm_ald (pc : Nat) (L : sm_L) (S : List Value) (h : sm_H) (t : Nat) (X : Nat × (Nat → Int32)) : Option sm_P := match S with
  | .int i :: .ref q :: r => match h.1[q]? with
    | some (.inr (.inl (u, n))) => if u = t ∧ 0 ≤ i.toInt ∧ i.toInt < n then some (pc, L, .int (h.2.1 q i.toNatClampNeg) :: r, h) else none
    | _ => none
  | .int i :: .retAddr _ :: r => if t = 0 ∧ 0 ≤ i.toInt ∧ i.toInt < X.1 then some (pc, L, .int (X.2 i.toNatClampNeg) :: r, h) else none
  | _ => none
def sm_ast (pc : Nat) (L : sm_L) (S : List Value) (h : sm_H) (t : Nat) : Option sm_P := match S with
  | .int x :: .int i :: .ref q :: r => match h.1[q]? with
    | some (.inr (.inl (u, n))) => if u = t ∧ 0 ≤ i.toInt ∧ i.toInt < n ∧ (t = 0 ∨ x = 0 ∨ x = 1) then some (pc, L, r, h.1, sm_up h.2.1 q i.toNatClampNeg x, h.2.2) else none
    | _ => none
  | _ => none
def sm_lald (pc : Nat) (L : sm_L) (S : List Value) (h : sm_H) : Option sm_P := match S with
  | .int i :: .ref q :: r => match h.1[q]? with
    | some (.inr (.inr (.inl n))) => if 0 ≤ i.toInt ∧ i.toInt < n then some (pc, L, .long (h.2.2.1 q i.toNatClampNeg) :: r, h) else none
    | _ => none
  | _ => none
def sm_last (pc : Nat) (L : sm_L) (S : List Value) (h : sm_H) : Option sm_P := match S with
  | .long x :: .int i :: .ref q :: r => match h.1[q]? with
    | some (.inr (.inr (.inl n))) => if 0 ≤ i.toInt ∧ i.toInt < n then some (pc, L, r, h.1, h.2.1, sm_uj h.2.2.1 q i.toNatClampNeg x, h.2.2.2) else none
    | _ => none
  | _ => none
def sm_aald (pc : Nat) (L : sm_L) (S : List Value) (h : sm_H) : Option sm_P := match S with
  | .int i :: .ref q :: r => match h.1[q]? with
    | some (.inr (.inr (.inr (t, rs)))) => if 0 ≤ i.toInt ∧ i.toInt < rs.length ∧ 3 ≤ t ∧ t < 6 then match rs[i.toNatClampNeg]? with
      | some (some z) => some (pc, L, .ref z :: r, h)
      | _ => none else none
    | _ => none
  | _ => none
def sm_aast (pc : Nat) (L : sm_L) (S : List Value) (h : sm_H) (ok : Nat → Nat → Bool) : Option sm_P := match S with
  | .ref z :: .int i :: .ref q :: r => match h.1[q]?, h.1[z]? with
    | some (.inr (.inr (.inr (t, rs)))), some (.inl (ci, _)) => if 0 ≤ i.toInt ∧ i.toInt < rs.length ∧ ok t ci = true then some (pc, L, r, h.1.set q (.inr (.inr (.inr (t, rs.set i.toNatClampNeg (some z))))), h.2) else none
    | _, _ => none
  | _ => none
def sm_alen (pc : Nat) (L : sm_L) (S : List Value) (h : sm_H) (X : Nat × (Nat → Int32)) : Option sm_P := match S with
  | .ref q :: r => match h.1[q]? with
    | some (.inr (.inl (t, n))) => if t < 6 then some (pc, L, .int (Int32.ofNat n) :: r, h) else none
    | some (.inr (.inr (.inl n))) => some (pc, L, .int (Int32.ofNat n) :: r, h)
    | some (.inr (.inr (.inr (t, rs)))) => if t < 6 then some (pc, L, .int (Int32.ofNat rs.length) :: r, h) else none
    | _ => none
  | .retAddr _ :: r => some (pc, L, .int (Int32.ofNat X.1) :: r, h)
  | _ => none
/-- references that are there -/
def sm_wfv (n : Nat) : Value → Bool
  | .ref k => decide (k < n)
  | _ => true
def sm_wfL (n : Nat) (L : sm_L) (S : List Value) : Bool := L.all (fun o => match o with
  | some v => sm_wfv n v
  | none => true) && S.all (sm_wfv n)
def sm_wfr (n : Nat) : Option Nat → Bool
  | some k => decide (k < n)
  | none => true
def sm_wfs (n : Nat) : sm_S → Bool
  | .inl (_, fs) => fs.all (fun f => match f with
    | some r => sm_wfr n r
    | none => true)
  | .inr (.inr (.inr (_, rs))) => rs.all (sm_wfr n)
  | _ => true
/-- a new cell, if there is room -/
def sm_mk (pc : Nat) (L : sm_L) (S : List Value) (h : sm_H) (z : sm_S) (n : Nat) : Option sm_P :=
  if 1 ≤ h.2.2.2.1 ∧ n ≤ h.2.2.2.2 ∧ sm_wfL h.1.length L S = true ∧ h.1.all (sm_wfs h.1.length) = true ∧ sm_wfs h.1.length z = true then
    some (pc, L, .ref h.1.length :: S, h.1 ++ [z], sm_uf h.2.1 h.1.length (fun _ => 0), (fun a => if a = h.1.length then (fun _ => 0) else h.2.2.1 a), h.2.2.2.1 - 1, h.2.2.2.2 - n) else none
def sm_newa (pc : Nat) (L : sm_L) (S : List Value) (h : sm_H) (t : ArrayType) : Option sm_P := match S with
  | .int n :: r => if 0 ≤ n.toInt ∧ n.toInt ≤ 1000000 then match t with
    | .int => sm_mk pc L r h (.inr (.inl (0, n.toNatClampNeg))) n.toNatClampNeg
    | .boolean => sm_mk pc L r h (.inr (.inl (1, n.toNatClampNeg))) n.toNatClampNeg
    | .long => sm_mk pc L r h (.inr (.inr (.inl n.toNatClampNeg))) n.toNatClampNeg
    | _ => none else none
  | _ => none
def sm_newq (pc : Nat) (L : sm_L) (S : List Value) (h : sm_H) (t : Option Nat) : Option sm_P := match t, S with
  | some t, .int n :: r => if 0 ≤ n.toInt ∧ n.toInt ≤ 1000000 then sm_mk pc L r h (.inr (.inr (.inr (t, List.replicate n.toNatClampNeg none)))) n.toNatClampNeg else none
  | _, _ => none
def sm_new (pc : Nat) (L : sm_L) (S : List Value) (h : sm_H) (f : Option (Nat × List (Option (Option Nat)))) : Option sm_P := match f with
  | some (ci, fs) => sm_mk pc L S h (.inl (ci, fs)) fs.length
  | none => none
def sm_tab (pc : Nat) (L : sm_L) (S : List Value) (h : sm_H) (d lo hi : Int) (offs : Array Int) : Option sm_P := match S with
  | .int x :: r => if x.toInt < lo ∨ hi < x.toInt then sm_jmp pc d L r h else match offs[(x.toInt - lo).toNat]? with
    | some off => sm_jmp pc off L r h
    | none => none
  | _ => none
def sm_pop (pc : Nat) (L : sm_L) (S : List Value) (h : sm_H) : Option sm_P := match S with
  | .int _ :: r => some (pc, L, r, h)
  | .ref _ :: r => some (pc, L, r, h)
  | _ => none
def sm_dup (pc : Nat) (L : sm_L) (S : List Value) (h : sm_H) : Option sm_P := match S with
  | .int x :: r => some (pc, L, .int x :: .int x :: r, h)
  | .ref x :: r => some (pc, L, .ref x :: .ref x :: r, h)
  | _ => none
def sm_dup_x1 (pc : Nat) (L : sm_L) (S : List Value) (h : sm_H) : Option sm_P := match S with
  | .int x :: .ref y :: r => some (pc, L, .int x :: .ref y :: .int x :: r, h)
  | .int x :: .int y :: r => some (pc, L, .int x :: .int y :: .int x :: r, h)
  | _ => none
def sm_dup_x2 (pc : Nat) (L : sm_L) (S : List Value) (h : sm_H) : Option sm_P := match S with
  | .int x :: .int y :: .ref z :: r => some (pc, L, .int x :: .int y :: .ref z :: .int x :: r, h)
  | _ => none
def sm_dup2 (pc : Nat) (L : sm_L) (S : List Value) (h : sm_H) : Option sm_P := match S with
  | .int x :: .ref y :: r => some (pc, L, .int x :: .ref y :: .int x :: .ref y :: r, h)
  | .int x :: .int y :: r => some (pc, L, .int x :: .int y :: .int x :: .int y :: r, h)
  | _ => none
def sm_i2l (pc : Nat) (L : sm_L) (S : List Value) (h : sm_H) : Option sm_P := match S with
  | .int x :: r => some (pc, L, .long x.toInt64 :: r, h)
  | _ => none
def sm_lcmp (pc : Nat) (L : sm_L) (S : List Value) (h : sm_H) : Option sm_P := match S with
  | .long y :: .long x :: r => some (pc, L, .int (lg_cmp x y) :: r, h)
  | _ => none
/-- one instruction that neither calls nor leaves -/
def sm_i (T : sm_T) (X : Nat × (Nat → Int32)) (ok : Nat → Nat → Bool) (y : Nat) (i : Instr) (pc : Nat) (L : sm_L) (S : List Value) (h : sm_H) : Option sm_P := match i with
  | .iconst n => some (pc + 1, L, .int (Int32.ofInt n) :: S, h)
  | .bipush n => some (pc + 2, L, .int (Int8.ofInt n).toInt32 :: S, h)
  | .sipush n => some (pc + 3, L, .int (Int16.ofInt n).toInt32 :: S, h)
  | .lconst n => some (pc + 1, L, .long (Int64.ofNat n.val) :: S, h)
  | .iload i => sm_lint (pc + 2) L S h i
  | .iload_n i => sm_lint (pc + 1) L S h i.val
  | .aload i => sm_lref (pc + 2) L S h i
  | .aload_n i => sm_lref (pc + 1) L S h i.val
  | .istore i => sm_sint (pc + 2) L S h i
  | .istore_n i => sm_sint (pc + 1) L S h i.val
  | .astore i => sm_sref (pc + 2) L S h i
  | .astore_n i => sm_sref (pc + 1) L S h i.val
  | .iinc i n => sm_inc (pc + 3) L S h i n
  | .iadd => sm_bin (pc + 1) L S h (fun x y => x + y)
  | .isub => sm_bin (pc + 1) L S h (fun x y => x - y)
  | .imul => sm_bin (pc + 1) L S h (fun x y => x * y)
  | .iand => sm_bin (pc + 1) L S h (fun x y => x &&& y)
  | .ior => sm_bin (pc + 1) L S h (fun x y => x ||| y)
  | .ixor => sm_bin (pc + 1) L S h (fun x y => x ^^^ y)
  | .ishl => sm_bin (pc + 1) L S h (fun x y => x <<< (y &&& 31))
  | .ishr => sm_bin (pc + 1) L S h (fun x y => x >>> (y &&& 31))
  | .ifCond c off => sm_br pc off L S h c
  | .if_icmp c off => sm_br2 pc off L S h c
  | .goto off => sm_jmp pc off L S h
  | .tableswitch d lo hi offs => sm_tab pc L S h d lo hi offs
  | .getfield k => sm_get (pc + 3) L S h (sm_fld T y k)
  | .putfield k => sm_put (pc + 3) L S h (sm_fld T y k)
  | .iaload => sm_ald (pc + 1) L S h 0 X
  | .baload => sm_ald (pc + 1) L S h 1 X
  | .iastore => sm_ast (pc + 1) L S h 0
  | .bastore => sm_ast (pc + 1) L S h 1
  | .laload => sm_lald (pc + 1) L S h
  | .lastore => sm_last (pc + 1) L S h
  | .aaload => sm_aald (pc + 1) L S h
  | .aastore => sm_aast (pc + 1) L S h ok
  | .arraylength => sm_alen (pc + 1) L S h X
  | .newarray t => sm_newa (pc + 2) L S h t
  | .anewarray k => sm_newq (pc + 3) L S h (sm_arr T y k)
  | .new k => sm_new (pc + 3) L S h (sm_cls T y k)
  | .pop => sm_pop (pc + 1) L S h
  | .dup => sm_dup (pc + 1) L S h
  | .dup_x1 => sm_dup_x1 (pc + 1) L S h
  | .dup_x2 => sm_dup_x2 (pc + 1) L S h
  | .dup2 => sm_dup2 (pc + 1) L S h
  | .i2l => sm_i2l (pc + 1) L S h
  | .lcmp => sm_lcmp (pc + 1) L S h
  | _ => none
/-- how a method begins -/
def sm_ent (n : Nat) (vs : List Value) : sm_L := vs.map some ++ List.replicate (n - vs.length) none
def sm_inv (T : sm_T) (y : Nat) : Instr → Option (Nat × Nat × Nat)
  | .invokestatic j => match sm_cal T y j with
    | some (k, z, w) => if k = 1 ∨ k = 2 ∨ k = 3 then some (k, z, w) else none
    | none => none
  | .invokevirtual j => match sm_cal T y j with
    | some (k, z, w) => if k = 4 then some (k, z, w) else none
    | none => none
  | .invokespecial j => match sm_cal T y j with
    | some (k, z, w) => if k = 0 ∨ k = 5 then some (k, z, w) else none
    | none => none
  | _ => none
def sm_sum (S : List Value) : Nat := (S.map (fun v => v.category)).sum
/-- the JDK's own: 0 Object's constructor, 1 Math.max, 2 System.arraycopy of ints -/
def sm_lib (k pc : Nat) (L : sm_L) (S : List Value) (h : sm_H) : Option sm_P := match k, S with
  | 0, .ref _ :: r => if sm_sum r ≤ 8 then some (pc, L, r, h) else none
  | 1, .int y :: .int x :: r => if sm_sum r ≤ 8 then some (pc, L, .int (if x < y then y else x) :: r, h) else none
  | 2, .int n :: .int dp :: .ref q1 :: .int sp :: .ref q0 :: r => match h.1[q0]?, h.1[q1]? with
    | some (.inr (.inl (0, n0))), some (.inr (.inl (0, n1))) => if sm_sum r ≤ 8 ∧ 0 ≤ n.toInt ∧ 0 ≤ sp.toInt ∧ 0 ≤ dp.toInt ∧ sp.toInt + n.toInt ≤ n0 ∧ dp.toInt + n.toInt ≤ n1 then
        some (pc, L, r, h.1, sm_uf h.2.1 q1 (va_cpy (h.2.1 q0) (h.2.1 q1) sp.toNatClampNeg dp.toNatClampNeg n.toNatClampNeg), h.2.2) else none
    | _, _ => none
  | _, _ => none
/-- the answer on the stack, by the method's kind: 0 none, 1 an int, 2 a boolean -/
def sm_ret (k : Nat) (i : Instr) (S : List Value) : Option (Option Value) := match k, i, S with
  | 0, .return_, [] => some none
  | 1, .ireturn, [.int x] => some (some (.int x))
  | 2, .ireturn, [.int x] => if x = 0 ∨ x = 1 then some (some (.int x)) else none
  | _, _, _ => none
def sm_isret : Instr → Bool
  | .return_ => true
  | .ireturn => true
  | _ => false
/-- behind a call -/
def sm_ok2 (L : sm_L) (S : List Value) (h h' : sm_H) : Bool := decide (h'.1.length = h.1.length) || sm_wfL h.1.length L S
def sm_c1 : Value → Bool
  | .int _ => true
  | .ref _ => true
  | .retAddr _ => true
  | _ => false
/-- the receiver of a call of kind 4 is an object of the callee's class -/
def sm_rcv (k ci : Nat) (vs : List Value) (h : sm_H) : Bool := match k, vs with
  | 3, _ => true
  | 5, .ref _ :: _ => true
  | 4, .ref q :: _ => match h.1[q]? with
    | some (.inl (cj, _)) => decide (ci = cj)
    | _ => false
  | _, _ => false
/-- a callee that throws at once, or its run -/
def sm_or (x : Option (Nat × Nat × Nat)) (d lw : Nat) (h : sm_H) (r : Option (sm_O × sm_H)) : Option (sm_O × sm_H) := match x with
  | some (x, kc, ks) => if kc ≤ h.2.2.2.1 ∧ ks ≤ h.2.2.2.2 ∧ 6 ≤ d ∧ 100 ≤ lw then some (.inr x, h.1, h.2.1, h.2.2.1, h.2.2.2.1 - kc, h.2.2.2.2 - ks) else none
  | none => r
/-- the whole run of a method from a pc: fuel, frames, words of the stack, method -/
def sm_run (T : sm_T) (X : Nat × (Nat → Int32)) (ok : Nat → Nat → Bool) : Nat → Nat → Nat → Nat → Nat → sm_L → List Value → sm_H → Option (sm_O × sm_H)
  | 0, _, _, _, _, _, _, _ => none
  | n + 1, d, lw, y, pc, L, S, h =>
      match sm_ins T y pc with
      | none => none
      | some i =>
        if sm_isret i = true then (sm_ret (sm_nL T y).2.1 i S).map (fun v => (.inl v, h))
        else match sm_inv T y i with
        | none => match sm_i T X ok y i pc L S h with
          | some (pc', L', S', h') => sm_run T X ok n d lw y pc' L' S' h'
          | none => none
        | some (k, z, w) =>
          match d with
          | 0 => none
          | d + 1 =>
            if k < 3 then (if 100 ≤ lw then match sm_lib k (pc + 3) L S h with
              | some (pc', L', S', h') => sm_run T X ok n (d + 1) lw y pc' L' S' h'
              | none => none else none)
            else if w ≤ S.length ∧ sm_sum (S.drop w) ≤ 8 ∧ sm_rcv k (sm_nL T z).2.2 (S.take w).reverse h = true ∧ (S.take w).all sm_c1 = true ∧ w ≤ (sm_nL T z).1 ∧ 19 + (sm_nL T z).1 ≤ lw then
              match sm_or (sm_thr T z (S.take w).reverse h) d (lw - (19 + (sm_nL T z).1)) h (sm_run T X ok n d (lw - (19 + (sm_nL T z).1)) z 0 (sm_ent (sm_nL T z).1 (S.take w).reverse) [] h) with
              | some (.inl v, h') => if sm_ok2 L (S.drop w) h h' = true then sm_run T X ok n (d + 1) lw y (pc + 3) L (v.toList ++ S.drop w) h' else none
              | some (.inr x, h') => if k = 5 then none else match sm_cat T y pc x with
                | none => none
                | some none => some (.inr x, h')
                | some (some (pc', q)) => if sm_ok2 L [] h h' = true then sm_run T X ok n (d + 1) lw y pc' (L.set q none) [] h' else none
              | none => none
            else none
