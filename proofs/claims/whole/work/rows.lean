section
/-! ===== the small machine: the code's own steps over numbers =====
A cell's shape: an object (class number, its fields: none an int that stands in the memory, some r a reference r), an array of ints or booleans (type number, length), an array of longs (length), an array of references (type number, what they are). References are places in the list of shapes. -/
abbrev sm_S : Type := (Nat × List (Option (Option Nat))) ⊕ ((Nat × Nat) ⊕ (Nat ⊕ (Nat × List (Option Nat))))
abbrev sm_M : Type := Nat → Nat → Int32
abbrev sm_J : Type := Nat → Nat → Int64
/-- shapes, ints, longs, how many cells and slots are left -/
abbrev sm_H : Type := List sm_S × sm_M × sm_J × Nat × Nat
abbrev sm_L : Type := List (Option Value)
/-- where a method stands: pc, locals, operands, memory -/
abbrev sm_P : Type := Nat × sm_L × List Value × sm_H
/-- an answer, or the number of what is thrown -/
abbrev sm_O : Type := Option Value ⊕ Nat
def sm_up (M : sm_M) (k i : Nat) (v : Int32) : sm_M := fun a => if a = k then upd (M k) i v else M a
def sm_uf (M : sm_M) (k : Nat) (f : Nat → Int32) : sm_M := fun a => if a = k then f else M a
def sm_uj (J : sm_J) (k i : Nat) (v : Int64) : sm_J := fun a => if a = k then vp_updL (J k) i v else J a
/-- what the class files say, by a method's number and a pc or an entry: the instruction; a field (class number, place, 0 int 1 boolean 2 reference); a class to make (class number, its fields); a class of references (type number); a callee (kind, method, how many values it takes); whether a method throws at once, by its arguments and the memory (what, cells, slots); where a throwing call is caught (what, then the pc behind the store, the local) -/
abbrev sm_T : Type := (Nat → Nat → Option Instr) × (Nat → Nat → Option (Nat × Nat × Nat)) × (Nat → Nat → Option (Nat × List (Option (Option Nat)))) × (Nat → Nat → Option Nat) × (Nat → Nat → Option (Nat × Nat × Nat)) × (Nat → List Value → sm_H → Option (Nat × Nat × Nat)) × (Nat → Nat → Nat → Option (Option (Nat × Nat))) × (Nat → Nat × Nat × Nat)
abbrev sm_ins (T : sm_T) := T.1
abbrev sm_fld (T : sm_T) := T.2.1
abbrev sm_cls (T : sm_T) := T.2.2.1
abbrev sm_arr (T : sm_T) := T.2.2.2.1
abbrev sm_cal (T : sm_T) := T.2.2.2.2.1
abbrev sm_thr (T : sm_T) := T.2.2.2.2.2.1
abbrev sm_cat (T : sm_T) := T.2.2.2.2.2.2.1
abbrev sm_nL (T : sm_T) := T.2.2.2.2.2.2.2
def sm_len : Instr → Nat
  | .bipush _ => 2
  | .sipush _ => 3
  | .iload _ => 2
  | .aload _ => 2
  | .istore _ => 2
  | .astore _ => 2
  | .iinc _ _ => 3
  | .ifCond _ _ => 3
  | .if_icmp _ _ => 3
  | .goto _ => 3
  | .getfield _ => 3
  | .putfield _ => 3
  | .newarray _ => 2
  | .anewarray _ => 3
  | .new _ => 3
  | .invokespecial _ => 3
  | .invokestatic _ => 3
  | .invokevirtual _ => 3
  | _ => 1
def sm_jmp (pc : Nat) (off : Int) (L : sm_L) (S : List Value) (h : sm_H) : Option sm_P := if 0 ≤ (pc : Int) + off then some (((pc : Int) + off).toNat, L, S, h) else none
def sm_lint (pc : Nat) (L : sm_L) (S : List Value) (h : sm_H) (i : Nat) : Option sm_P := match L[i]? with
  | some (some (.int x)) => some (pc, L, .int x :: S, h)
  | _ => none
def sm_lref (pc : Nat) (L : sm_L) (S : List Value) (h : sm_H) (i : Nat) : Option sm_P := match L[i]? with
  | some (some (.ref x)) => some (pc, L, .ref x :: S, h)
  | some (some (.retAddr x)) => some (pc, L, .retAddr x :: S, h)
  | _ => none
def sm_sint (pc : Nat) (L : sm_L) (S : List Value) (h : sm_H) (i : Nat) : Option sm_P := match S with
  | .int x :: r => some (pc, L.set i (some (.int x)), r, h)
  | _ => none
def sm_sref (pc : Nat) (L : sm_L) (S : List Value) (h : sm_H) (i : Nat) : Option sm_P := match S with
  | .ref x :: r => some (pc, L.set i (some (.ref x)), r, h)
  | _ => none
def sm_inc (pc : Nat) (L : sm_L) (S : List Value) (h : sm_H) (i : Nat) (n : Int) : Option sm_P := match L[i]? with
  | some (some (.int x)) => some (pc, L.set i (some (.int (x + Int32.ofInt n))), S, h)
  | _ => none
def sm_bin (pc : Nat) (L : sm_L) (S : List Value) (h : sm_H) (f : Int32 → Int32 → Int32) : Option sm_P := match S with
  | .int y :: .int x :: r => some (pc, L, .int (f x y) :: r, h)
  | _ => none
def sm_cnd (c : ClassFile.Cond) (x y : Int32) : Prop := match c with
  | .eq => x = y
  | .ne => ¬ x = y
  | .lt => x < y
  | .ge => y ≤ x
  | .gt => y < x
  | .le => x ≤ y
def sm_dec (c : ClassFile.Cond) (x y : Int32) : Decidable (sm_cnd c x y) := match c with
  | .eq => inferInstanceAs (Decidable (x = y))
  | .ne => inferInstanceAs (Decidable (¬ x = y))
  | .lt => inferInstanceAs (Decidable (x < y))
  | .ge => inferInstanceAs (Decidable (y ≤ x))
  | .gt => inferInstanceAs (Decidable (y < x))
  | .le => inferInstanceAs (Decidable (x ≤ y))
def sm_sel (c : ClassFile.Cond) (x y : Int32) (a b : Nat) : Nat := @ite _ (sm_cnd c x y) (sm_dec c x y) a b
def sm_tgt (pc : Nat) (off : Int) : Nat := ((pc : Int) + off).toNat
def sm_br (pc : Nat) (off : Int) (L : sm_L) (S : List Value) (h : sm_H) (c : ClassFile.Cond) : Option sm_P := match S with
  | .int x :: r => if 0 ≤ (pc : Int) + off then some (sm_sel c x 0 (sm_tgt pc off) (pc + 3), L, r, h) else none
  | _ => none
def sm_br2 (pc : Nat) (off : Int) (L : sm_L) (S : List Value) (h : sm_H) (c : ClassFile.Cond) : Option sm_P := match S with
  | .int y :: .int x :: r => if 0 ≤ (pc : Int) + off then some (sm_sel c x y (sm_tgt pc off) (pc + 3), L, r, h) else none
  | _ => none
def sm_get (pc : Nat) (L : sm_L) (S : List Value) (h : sm_H) (f : Option (Nat × Nat × Nat)) : Option sm_P := match f, S with
  | some (ci, k, _), .ref q :: r => match h.1[q]? with
    | some (.inl (cj, fs)) => if ci = cj then match fs[k]? with
      | some none => some (pc, L, .int (h.2.1 q k) :: r, h)
      | some (some (some z)) => some (pc, L, .ref z :: r, h)
      | _ => none else none
    | _ => none
  | _, _ => none
def sm_put (pc : Nat) (L : sm_L) (S : List Value) (h : sm_H) (f : Option (Nat × Nat × Nat)) : Option sm_P := match f, S with
  | some (ci, k, b), .int x :: .ref q :: r => match h.1[q]? with
    | some (.inl (cj, fs)) => if ci = cj ∧ fs[k]? = some none ∧ (b = 0 ∨ b = 1 ∧ (x = 0 ∨ x = 1)) then some (pc, L, r, h.1, sm_up h.2.1 q k x, h.2.2) else none
    | _ => none
  | some (ci, k, b), .ref z :: .ref q :: r => match h.1[q]? with
    | some (.inl (cj, fs)) => if ci = cj ∧ b = 2 ∧ fs[k]?.map Option.isSome = some true then some (pc, L, r, h.1.set q (.inl (cj, fs.set k (some (some z)))), h.2) else none
    | _ => none
  | _, _ => none
/-- ints (type number 0) and booleans (1) by their own instructions; 2 is long -/
def sm_ald (pc : Nat) (L : sm_L) (S : List Value) (h : sm_H) (t : Nat) (X : Nat × (Nat → Int32)) : Option sm_P := match S with
  | .int i :: .ref q :: r => match h.1[q]? with
    | some (.inr (.inl (u, n))) => if u = t ∧ 0 ≤ i.toInt ∧ i.toInt < n then some (pc, L, .int (h.2.1 q i.toNatClampNeg) :: r, h) else none
    | _ => none
  | .int i :: .retAddr _ :: r => if t = 0 ∧ 0 ≤ i.toInt ∧ i.toInt < X.1 then some (pc, L, .int (X.2 i.toNatClampNeg) :: r, h) else none
  | _ => none
def sm_ast (pc : Nat) (L : sm_L) (S : List Value) (h : sm_H) (t : Nat) : Option sm_P := match S with
  | .int x :: .int i :: .ref q :: r => match h.1[q]? with
    | some (.inr (.inl (u, n))) => if u = t ∧ 0 ≤ i.toInt ∧ i.toInt < n ∧ (t = 0 ∨ x = 0 ∨ x = 1) then some (pc, L, r, h.1, sm_up h.2.1 q i.toNatClampNeg x, h.2.2) else none
    | _ => none
  | _ => none
def sm_lald (pc : Nat) (L : sm_L) (S : List Value) (h : sm_H) : Option sm_P := match S with
  | .int i :: .ref q :: r => match h.1[q]? with
    | some (.inr (.inr (.inl n))) => if 0 ≤ i.toInt ∧ i.toInt < n then some (pc, L, .long (h.2.2.1 q i.toNatClampNeg) :: r, h) else none
    | _ => none
  | _ => none
def sm_last (pc : Nat) (L : sm_L) (S : List Value) (h : sm_H) : Option sm_P := match S with
  | .long x :: .int i :: .ref q :: r => match h.1[q]? with
    | some (.inr (.inr (.inl n))) => if 0 ≤ i.toInt ∧ i.toInt < n then some (pc, L, r, h.1, h.2.1, sm_uj h.2.2.1 q i.toNatClampNeg x, h.2.2.2) else none
    | _ => none
  | _ => none
def sm_aald (pc : Nat) (L : sm_L) (S : List Value) (h : sm_H) : Option sm_P := match S with
  | .int i :: .ref q :: r => match h.1[q]? with
    | some (.inr (.inr (.inr (t, rs)))) => if 0 ≤ i.toInt ∧ i.toInt < rs.length ∧ 3 ≤ t ∧ t < 6 then match rs[i.toNatClampNeg]? with
      | some (some z) => some (pc, L, .ref z :: r, h)
      | _ => none else none
    | _ => none
  | _ => none
def sm_aast (pc : Nat) (L : sm_L) (S : List Value) (h : sm_H) (ok : Nat → Nat → Bool) : Option sm_P := match S with
  | .ref z :: .int i :: .ref q :: r => match h.1[q]?, h.1[z]? with
    | some (.inr (.inr (.inr (t, rs)))), some (.inl (ci, _)) => if 0 ≤ i.toInt ∧ i.toInt < rs.length ∧ ok t ci = true then some (pc, L, r, h.1.set q (.inr (.inr (.inr (t, rs.set i.toNatClampNeg (some z))))), h.2) else none
    | _, _ => none
  | _ => none
def sm_alen (pc : Nat) (L : sm_L) (S : List Value) (h : sm_H) (X : Nat × (Nat → Int32)) : Option sm_P := match S with
  | .ref q :: r => match h.1[q]? with
    | some (.inr (.inl (t, n))) => if t < 6 then some (pc, L, .int (Int32.ofNat n) :: r, h) else none
    | some (.inr (.inr (.inl n))) => some (pc, L, .int (Int32.ofNat n) :: r, h)
    | some (.inr (.inr (.inr (t, rs)))) => if t < 6 then some (pc, L, .int (Int32.ofNat rs.length) :: r, h) else none
    | _ => none
  | .retAddr _ :: r => some (pc, L, .int (Int32.ofNat X.1) :: r, h)
  | _ => none
/-- references that are there -/
def sm_wfv (n : Nat) : Value → Bool
  | .ref k => decide (k < n)
  | _ => true
def sm_wfL (n : Nat) (L : sm_L) (S : List Value) : Bool := L.all (fun o => match o with
  | some v => sm_wfv n v
  | none => true) && S.all (sm_wfv n)
def sm_wfr (n : Nat) : Option Nat → Bool
  | some k => decide (k < n)
  | none => true
def sm_wfs (n : Nat) : sm_S → Bool
  | .inl (_, fs) => fs.all (fun f => match f with
    | some r => sm_wfr n r
    | none => true)
  | .inr (.inr (.inr (_, rs))) => rs.all (sm_wfr n)
  | _ => true
/-- a new cell, if there is room -/
def sm_mk (pc : Nat) (L : sm_L) (S : List Value) (h : sm_H) (z : sm_S) (n : Nat) : Option sm_P :=
  if 1 ≤ h.2.2.2.1 ∧ n ≤ h.2.2.2.2 ∧ sm_wfL h.1.length L S = true ∧ h.1.all (sm_wfs h.1.length) = true ∧ sm_wfs h.1.length z = true then
    some (pc, L, .ref h.1.length :: S, h.1 ++ [z], sm_uf h.2.1 h.1.length (fun _ => 0), (fun a => if a = h.1.length then (fun _ => 0) else h.2.2.1 a), h.2.2.2.1 - 1, h.2.2.2.2 - n) else none
def sm_newa (pc : Nat) (L : sm_L) (S : List Value) (h : sm_H) (t : ArrayType) : Option sm_P := match S with
  | .int n :: r => if 0 ≤ n.toInt ∧ n.toInt ≤ 1000000 then match t with
    | .int => sm_mk pc L r h (.inr (.inl (0, n.toNatClampNeg))) n.toNatClampNeg
    | .boolean => sm_mk pc L r h (.inr (.inl (1, n.toNatClampNeg))) n.toNatClampNeg
    | .long => sm_mk pc L r h (.inr (.inr (.inl n.toNatClampNeg))) n.toNatClampNeg
    | _ => none else none
  | _ => none
def sm_newq (pc : Nat) (L : sm_L) (S : List Value) (h : sm_H) (t : Option Nat) : Option sm_P := match t, S with
  | some t, .int n :: r => if 0 ≤ n.toInt ∧ n.toInt ≤ 1000000 then sm_mk pc L r h (.inr (.inr (.inr (t, List.replicate n.toNatClampNeg none)))) n.toNatClampNeg else none
  | _, _ => none
def sm_new (pc : Nat) (L : sm_L) (S : List Value) (h : sm_H) (f : Option (Nat × List (Option (Option Nat)))) : Option sm_P := match f with
  | some (ci, fs) => sm_mk pc L S h (.inl (ci, fs)) fs.length
  | none => none
def sm_tab (pc : Nat) (L : sm_L) (S : List Value) (h : sm_H) (d lo hi : Int) (offs : Array Int) : Option sm_P := match S with
  | .int x :: r => if x.toInt < lo ∨ hi < x.toInt then sm_jmp pc d L r h else match offs[(x.toInt - lo).toNat]? with
    | some off => sm_jmp pc off L r h
    | none => none
  | _ => none
def sm_pop (pc : Nat) (L : sm_L) (S : List Value) (h : sm_H) : Option sm_P := match S with
  | .int _ :: r => some (pc, L, r, h)
  | .ref _ :: r => some (pc, L, r, h)
  | _ => none
def sm_dup (pc : Nat) (L : sm_L) (S : List Value) (h : sm_H) : Option sm_P := match S with
  | .int x :: r => some (pc, L, .int x :: .int x :: r, h)
  | .ref x :: r => some (pc, L, .ref x :: .ref x :: r, h)
  | _ => none
def sm_dup_x1 (pc : Nat) (L : sm_L) (S : List Value) (h : sm_H) : Option sm_P := match S with
  | .int x :: .ref y :: r => some (pc, L, .int x :: .ref y :: .int x :: r, h)
  | .int x :: .int y :: r => some (pc, L, .int x :: .int y :: .int x :: r, h)
  | _ => none
def sm_dup_x2 (pc : Nat) (L : sm_L) (S : List Value) (h : sm_H) : Option sm_P := match S with
  | .int x :: .int y :: .ref z :: r => some (pc, L, .int x :: .int y :: .ref z :: .int x :: r, h)
  | _ => none
def sm_dup2 (pc : Nat) (L : sm_L) (S : List Value) (h : sm_H) : Option sm_P := match S with
  | .int x :: .ref y :: r => some (pc, L, .int x :: .ref y :: .int x :: .ref y :: r, h)
  | .int x :: .int y :: r => some (pc, L, .int x :: .int y :: .int x :: .int y :: r, h)
  | _ => none
def sm_i2l (pc : Nat) (L : sm_L) (S : List Value) (h : sm_H) : Option sm_P := match S with
  | .int x :: r => some (pc, L, .long x.toInt64 :: r, h)
  | _ => none
def sm_lcmp (pc : Nat) (L : sm_L) (S : List Value) (h : sm_H) : Option sm_P := match S with
  | .long y :: .long x :: r => some (pc, L, .int (lg_cmp x y) :: r, h)
  | _ => none
/-- one instruction that neither calls nor leaves -/
def sm_i (T : sm_T) (X : Nat × (Nat → Int32)) (ok : Nat → Nat → Bool) (y : Nat) (i : Instr) (pc : Nat) (L : sm_L) (S : List Value) (h : sm_H) : Option sm_P := match i with
  | .iconst n => some (pc + 1, L, .int (Int32.ofInt n) :: S, h)
  | .bipush n => some (pc + 2, L, .int (Int8.ofInt n).toInt32 :: S, h)
  | .sipush n => some (pc + 3, L, .int (Int16.ofInt n).toInt32 :: S, h)
  | .lconst n => some (pc + 1, L, .long (Int64.ofNat n.val) :: S, h)
  | .iload i => sm_lint (pc + 2) L S h i
  | .iload_n i => sm_lint (pc + 1) L S h i.val
  | .aload i => sm_lref (pc + 2) L S h i
  | .aload_n i => sm_lref (pc + 1) L S h i.val
  | .istore i => sm_sint (pc + 2) L S h i
  | .istore_n i => sm_sint (pc + 1) L S h i.val
  | .astore i => sm_sref (pc + 2) L S h i
  | .astore_n i => sm_sref (pc + 1) L S h i.val
  | .iinc i n => sm_inc (pc + 3) L S h i n
  | .iadd => sm_bin (pc + 1) L S h (fun x y => x + y)
  | .isub => sm_bin (pc + 1) L S h (fun x y => x - y)
  | .imul => sm_bin (pc + 1) L S h (fun x y => x * y)
  | .iand => sm_bin (pc + 1) L S h (fun x y => x &&& y)
  | .ior => sm_bin (pc + 1) L S h (fun x y => x ||| y)
  | .ixor => sm_bin (pc + 1) L S h (fun x y => x ^^^ y)
  | .ishl => sm_bin (pc + 1) L S h (fun x y => x <<< (y &&& 31))
  | .ishr => sm_bin (pc + 1) L S h (fun x y => x >>> (y &&& 31))
  | .ifCond c off => sm_br pc off L S h c
  | .if_icmp c off => sm_br2 pc off L S h c
  | .goto off => sm_jmp pc off L S h
  | .tableswitch d lo hi offs => sm_tab pc L S h d lo hi offs
  | .getfield k => sm_get (pc + 3) L S h (sm_fld T y k)
  | .putfield k => sm_put (pc + 3) L S h (sm_fld T y k)
  | .iaload => sm_ald (pc + 1) L S h 0 X
  | .baload => sm_ald (pc + 1) L S h 1 X
  | .iastore => sm_ast (pc + 1) L S h 0
  | .bastore => sm_ast (pc + 1) L S h 1
  | .laload => sm_lald (pc + 1) L S h
  | .lastore => sm_last (pc + 1) L S h
  | .aaload => sm_aald (pc + 1) L S h
  | .aastore => sm_aast (pc + 1) L S h ok
  | .arraylength => sm_alen (pc + 1) L S h X
  | .newarray t => sm_newa (pc + 2) L S h t
  | .anewarray k => sm_newq (pc + 3) L S h (sm_arr T y k)
  | .new k => sm_new (pc + 3) L S h (sm_cls T y k)
  | .pop => sm_pop (pc + 1) L S h
  | .dup => sm_dup (pc + 1) L S h
  | .dup_x1 => sm_dup_x1 (pc + 1) L S h
  | .dup_x2 => sm_dup_x2 (pc + 1) L S h
  | .dup2 => sm_dup2 (pc + 1) L S h
  | .i2l => sm_i2l (pc + 1) L S h
  | .lcmp => sm_lcmp (pc + 1) L S h
  | _ => none
/-- how a method begins -/
def sm_ent (n : Nat) (vs : List Value) : sm_L := vs.map some ++ List.replicate (n - vs.length) none
def sm_inv (T : sm_T) (y : Nat) : Instr → Option (Nat × Nat × Nat)
  | .invokestatic j => match sm_cal T y j with
    | some (k, z, w) => if k = 1 ∨ k = 2 ∨ k = 3 then some (k, z, w) else none
    | none => none
  | .invokevirtual j => match sm_cal T y j with
    | some (k, z, w) => if k = 4 then some (k, z, w) else none
    | none => none
  | .invokespecial j => match sm_cal T y j with
    | some (k, z, w) => if k = 0 ∨ k = 5 then some (k, z, w) else none
    | none => none
  | _ => none
def sm_sum (S : List Value) : Nat := (S.map (fun v => v.category)).sum
/-- the JDK's own: 0 Object's constructor, 1 Math.max, 2 System.arraycopy of ints -/
def sm_lib (k pc : Nat) (L : sm_L) (S : List Value) (h : sm_H) : Option sm_P := match k, S with
  | 0, .ref _ :: r => if sm_sum r ≤ 8 then some (pc, L, r, h) else none
  | 1, .int y :: .int x :: r => if sm_sum r ≤ 8 then some (pc, L, .int (if x < y then y else x) :: r, h) else none
  | 2, .int n :: .int dp :: .ref q1 :: .int sp :: .ref q0 :: r => match h.1[q0]?, h.1[q1]? with
    | some (.inr (.inl (0, n0))), some (.inr (.inl (0, n1))) => if sm_sum r ≤ 8 ∧ 0 ≤ n.toInt ∧ 0 ≤ sp.toInt ∧ 0 ≤ dp.toInt ∧ sp.toInt + n.toInt ≤ n0 ∧ dp.toInt + n.toInt ≤ n1 then
        some (pc, L, r, h.1, sm_uf h.2.1 q1 (va_cpy (h.2.1 q0) (h.2.1 q1) sp.toNatClampNeg dp.toNatClampNeg n.toNatClampNeg), h.2.2) else none
    | _, _ => none
  | _, _ => none
/-- the answer on the stack, by the method's kind: 0 none, 1 an int, 2 a boolean -/
def sm_ret (k : Nat) (i : Instr) (S : List Value) : Option (Option Value) := match k, i, S with
  | 0, .return_, [] => some none
  | 1, .ireturn, [.int x] => some (some (.int x))
  | 2, .ireturn, [.int x] => if x = 0 ∨ x = 1 then some (some (.int x)) else none
  | _, _, _ => none
def sm_isret : Instr → Bool
  | .return_ => true
  | .ireturn => true
  | _ => false
/-- behind a call -/
def sm_ok2 (L : sm_L) (S : List Value) (h h' : sm_H) : Bool := decide (h'.1.length = h.1.length) || sm_wfL h.1.length L S
def sm_c1 : Value → Bool
  | .int _ => true
  | .ref _ => true
  | .retAddr _ => true
  | _ => false
/-- the receiver of a call of kind 4 is an object of the callee's class -/
def sm_rcv (k ci : Nat) (vs : List Value) (h : sm_H) : Bool := match k, vs with
  | 3, _ => true
  | 5, .ref _ :: _ => true
  | 4, .ref q :: _ => match h.1[q]? with
    | some (.inl (cj, _)) => decide (ci = cj)
    | _ => false
  | _, _ => false
/-- a callee that throws at once, or its run -/
def sm_or (x : Option (Nat × Nat × Nat)) (d lw : Nat) (h : sm_H) (r : Option (sm_O × sm_H)) : Option (sm_O × sm_H) := match x with
  | some (x, kc, ks) => if kc ≤ h.2.2.2.1 ∧ ks ≤ h.2.2.2.2 ∧ 6 ≤ d ∧ 100 ≤ lw then some (.inr x, h.1, h.2.1, h.2.2.1, h.2.2.2.1 - kc, h.2.2.2.2 - ks) else none
  | none => r
/-- the whole run of a method from a pc: fuel, frames, words of the stack, method -/
def sm_run (T : sm_T) (X : Nat × (Nat → Int32)) (ok : Nat → Nat → Bool) : Nat → Nat → Nat → Nat → Nat → sm_L → List Value → sm_H → Option (sm_O × sm_H)
  | 0, _, _, _, _, _, _, _ => none
  | n + 1, d, lw, y, pc, L, S, h =>
      match sm_ins T y pc with
      | none => none
      | some i =>
        if sm_isret i = true then (sm_ret (sm_nL T y).2.1 i S).map (fun v => (.inl v, h))
        else match sm_inv T y i with
        | none => match sm_i T X ok y i pc L S h with
          | some (pc', L', S', h') => sm_run T X ok n d lw y pc' L' S' h'
          | none => none
        | some (k, z, w) =>
          match d with
          | 0 => none
          | d + 1 =>
            if k < 3 then (if 100 ≤ lw then match sm_lib k (pc + 3) L S h with
              | some (pc', L', S', h') => sm_run T X ok n (d + 1) lw y pc' L' S' h'
              | none => none else none)
            else if w ≤ S.length ∧ sm_sum (S.drop w) ≤ 8 ∧ sm_rcv k (sm_nL T z).2.2 (S.take w).reverse h = true ∧ (S.take w).all sm_c1 = true ∧ w ≤ (sm_nL T z).1 ∧ 19 + (sm_nL T z).1 ≤ lw then
              match sm_or (sm_thr T z (S.take w).reverse h) d (lw - (19 + (sm_nL T z).1)) h (sm_run T X ok n d (lw - (19 + (sm_nL T z).1)) z 0 (sm_ent (sm_nL T z).1 (S.take w).reverse) [] h) with
              | some (.inl v, h') => if sm_ok2 L (S.drop w) h h' = true then sm_run T X ok n (d + 1) lw y (pc + 3) L (v.toList ++ S.drop w) h' else none
              | some (.inr x, h') => if k = 5 then none else match sm_cat T y pc x with
                | none => none
                | some none => some (.inr x, h')
                | some (some (pc', q)) => if sm_ok2 L [] h h' = true then sm_run T X ok n (d + 1) lw y pc' (L.set q none) [] h' else none
              | none => none
            else none
end
section
/-! ===== the small machine's memory as a world of the kit ===== -/
def sm_v (b : Nat) (ad : Nat → Nat) : Value → Value
  | .ref k => .ref (ad k)
  | .retAddr _ => .ref b
  | v => v
def sm_f (ad : Nat → Nat) (f : Nat → Int32) (i : Nat) : Option (Option Nat) → Value
  | none => .int (f i)
  | some none => .null
  | some (some q) => .ref (ad q)
def sm_e (cA : Nat → ClassId) (ad : Nat → Nat) (M : sm_M) (J : sm_J) (k : Nat) : sm_S → va_E
  | .inl (ci, fs) => .inr (ci, fs.mapIdx (sm_f ad (M k)))
  | .inr (.inl (t, n)) => .inl (cA t, n, .inl (M k))
  | .inr (.inr (.inl n)) => .inl (cA 2, n, .inr (.inl (J k)))
  | .inr (.inr (.inr (t, rs))) => .inl (cA t, rs.length, .inr (.inr (.inr (.inr (fun i => (rs[i]?.join).map ad)))))
def sm_w (cA : Nat → ClassId) (ad : Nat → Nat) (h : sm_H) : va_W := h.1.mapIdx (fun k z => (ad k, sm_e cA ad h.2.1 h.2.2.1 k z))
theorem sm_w_get {cA : Nat → ClassId} {ad : Nat → Nat} {h : sm_H} {k : Nat} {z : sm_S} (hk : h.1[k]? = some z) : (sm_w cA ad h)[k]? = some (ad k, sm_e cA ad h.2.1 h.2.2.1 k z) := by
  unfold sm_w
  rw [List.getElem?_mapIdx, hk]
  rfl
theorem sm_w_any {cA : Nat → ClassId} {ad : Nat → Nat} {h : sm_H} {k : Nat} {q : Nat × va_E} (hk : (sm_w cA ad h)[k]? = some q) : ∃ z, h.1[k]? = some z ∧ q = (ad k, sm_e cA ad h.2.1 h.2.2.1 k z) := by
  unfold sm_w at hk
  rw [List.getElem?_mapIdx] at hk
  cases hz : h.1[k]? with
  | none => rw [hz] at hk; cases hk
  | some z => rw [hz] at hk; exact ⟨z, rfl, (Option.some.inj hk).symm⟩
/-- the same list of shapes, another memory, that differs in one cell alone -/
theorem sm_w_mem {cA : Nat → ClassId} {ad : Nat → Nat} {sh : List sm_S} {M M' : sm_M} {J J' : sm_J} {r r' : Nat × Nat} {k : Nat} {z : sm_S} (hk : sh[k]? = some z) (hM : ∀ a, a ≠ k → M' a = M a) (hJ : ∀ a, a ≠ k → J' a = J a) :
    sm_w cA ad (sh, M', J', r') = (sm_w cA ad (sh, M, J, r)).set k (ad k, sm_e cA ad M' J' k z) := by
  apply List.ext_getElem?
  intro j
  by_cases hj : j = k
  · subst hj
    have hl : j < (sm_w cA ad (sh, M, J, r)).length := by
      unfold sm_w
      rw [List.length_mapIdx]
      exact (List.getElem?_eq_some_iff.mp hk).1
    rw [List.getElem?_set_self hl]
    exact sm_w_get hk
  · rw [List.getElem?_set_ne (Ne.symm hj)]
    unfold sm_w
    rw [List.getElem?_mapIdx, List.getElem?_mapIdx]
    show Option.map _ sh[j]? = Option.map _ sh[j]?
    cases sh[j]? with
    | none => rfl
    | some z' =>
      show some _ = some _
      congr 2
      match z' with
      | .inl (ci, fs) => simp only [sm_e, hM j hj]
      | .inr (.inl (t, n)) => simp only [sm_e, hM j hj]
      | .inr (.inr (.inl n)) => simp only [sm_e, hJ j hj]
      | .inr (.inr (.inr (t, rs))) => rfl
/-- one shape is another, the memory is the same -/
theorem sm_w_shp {cA : Nat → ClassId} {ad : Nat → Nat} {sh : List sm_S} {M : sm_M} {J : sm_J} {r r' : Nat × Nat} {k : Nat} {z' : sm_S} :
    sm_w cA ad (sh.set k z', M, J, r') = (sm_w cA ad (sh, M, J, r)).set k (ad k, sm_e cA ad M J k z') := by
  unfold sm_w
  exact List.mapIdx_set
/-- the locals: what is listed is held -/
def sm_l (b : Nat) (ad : Nat → Nat) (ls : Array Slot) (nL : Nat) (L : sm_L) : Prop := L.length = nL ∧ ls.size = nL ∧ lv_wf ls ∧ ∀ (i : Nat) (v : Value), L[i]? = some (some v) → ls[i]? = some (.val (sm_v b ad v)) ∧ (sm_v b ad v).category = 1
def sm_lv (b : Nat) (ad : Nat → Nat) (L : sm_L) : List (Nat × Value) := (List.range L.length).filterMap (fun i => match L[i]? with
  | some (some v) => some (i, sm_v b ad v)
  | _ => none)
theorem sm_lv_mem {b : Nat} {ad : Nat → Nat} {L : sm_L} {q : Nat × Value} : q ∈ sm_lv b ad L ↔ ∃ v, L[q.1]? = some (some v) ∧ q.2 = sm_v b ad v := by
  unfold sm_lv
  rw [List.mem_filterMap]
  constructor
  · rintro ⟨i, -, hi⟩
    split at hi
    · next v hv => cases hi; exact ⟨v, hv, rfl⟩
    · cases hi
  · rintro ⟨v, h1, h2⟩
    refine ⟨q.1, List.mem_range.mpr (List.getElem?_eq_some_iff.mp h1).1, ?_⟩
    rw [h1]
    show some (q.1, sm_v b ad v) = some q
    rw [← h2]
theorem sm_l_has {b : Nat} {ad : Nat → Nat} {ls : Array Slot} {nL : Nat} {L : sm_L} (h : sm_l b ad ls nL L) : lv_has ls nL (sm_lv b ad L) := by
  refine ⟨h.2.1, h.2.2.1, fun q hq => ?_⟩
  obtain ⟨v, h1, h2⟩ := sm_lv_mem.mp hq
  rw [h2]
  exact (h.2.2.2 q.1 v h1).1
theorem sm_l_st {b : Nat} {ad : Nat → Nat} {ls ls' : Array Slot} {nL i : Nat} {L : sm_L} {v : Value} (h : sm_l b ad ls nL L) (hc : (sm_v b ad v).category = 1) (h' : lv_has ls' nL ((i, sm_v b ad v) :: (sm_lv b ad L).filter (fun q => !(q.1 == i) && !(q.1 + 1 == i && q.2.category == 2)))) : sm_l b ad ls' nL (L.set i (some v)) := by
  refine ⟨by rw [List.length_set]; exact h.1, h'.1, h'.2.1, fun j w hj => ?_⟩
  by_cases e : j = i
  · subst e
    have hl : j < L.length := by
      have := (List.getElem?_eq_some_iff.mp hj).1
      rwa [List.length_set] at this
    rw [List.getElem?_set_self hl] at hj
    cases hj
    exact ⟨h'.2.2 (j, sm_v b ad v) List.mem_cons_self, hc⟩
  · rw [List.getElem?_set_ne (Ne.symm e)] at hj
    have hw := h.2.2.2 j w hj
    refine ⟨h'.2.2 (j, sm_v b ad w) (List.mem_cons_of_mem _ (List.mem_filter.mpr ⟨sm_lv_mem.mpr ⟨w, hj, rfl⟩, ?_⟩)), hw.2⟩
    simp [e, hw.2]
theorem sm_l_un {b : Nat} {ad : Nat → Nat} {ls ls' : Array Slot} {nL i : Nat} {L : sm_L} {x : Value} (h : sm_l b ad ls nL L) (h' : lv_has ls' nL ((i, x) :: (sm_lv b ad L).filter (fun q => !(q.1 == i) && !(q.1 + 1 == i && q.2.category == 2)))) : sm_l b ad ls' nL (L.set i none) := by
  refine ⟨by rw [List.length_set]; exact h.1, h'.1, h'.2.1, fun j w hj => ?_⟩
  by_cases e : j = i
  · subst e
    have hl : j < L.length := by
      have := (List.getElem?_eq_some_iff.mp hj).1
      rwa [List.length_set] at this
    rw [List.getElem?_set_self hl] at hj
    cases hj
  · rw [List.getElem?_set_ne (Ne.symm e)] at hj
    have hw := h.2.2.2 j w hj
    refine ⟨h'.2.2 (j, sm_v b ad w) (List.mem_cons_of_mem _ (List.mem_filter.mpr ⟨sm_lv_mem.mpr ⟨w, hj, rfl⟩, ?_⟩)), hw.2⟩
    simp [e, hw.2]
end
section
/-! ===== each instruction of the small machine is one of the machine ===== -/
def sm_W (p : Program) (l : Launch) (e : Env) (R : Room) (s : State) (m : MethodId) (args : Array Value) (below : List Frame) (meth : Method) (c : Code) (Q : State → Prop) (D : va_G) (cl : List vw_C) (A : Nat → Prop) (H0 : Heap) (nL : Nat) (cA : Nat → ClassId) (b : Nat) (ad0 : Nat → Nat) (n0 C1 S1 : Nat) (pc : Nat) (L : sm_L) (S : List Value) (h : sm_H) : Prop :=
  ∀ (ad : Nat → Nat) (H : Heap) (locs : List Loc) (ls : Array Slot), (∀ k, ¬ (n0 ≤ k ∧ k < h.1.length) → ad k = ad0 k) → va_P D cl (sm_w cA ad h) H → va_D A (sm_w cA ad h) → va_S A H0 H locs → sm_l b ad ls nL L →
    W p l e R s m args below meth c H locs (C1 - h.2.2.2.1) (S1 - h.2.2.2.2) Q (F0 m pc ls (S.map (sm_v b ad)))
theorem sm_inI {i : Int32} {n : Nat} (h1 : 0 ≤ i.toInt) (h2 : i.toInt < n) : vp_in i n := vp_in_iff.mpr ⟨h1, h2⟩
theorem sm_up_ne {M : sm_M} {k i : Nat} {v : Int32} : ∀ a, a ≠ k → sm_up M k i v a = M a := fun _ h => if_neg h
theorem sm_up_eq {M : sm_M} {k i : Nat} {v : Int32} : sm_up M k i v k = upd (M k) i v := if_pos rfl
theorem sm_uf_ne {M : sm_M} {k : Nat} {f : Nat → Int32} : ∀ a, a ≠ k → sm_uf M k f a = M a := fun _ h => if_neg h
theorem sm_uf_eq {M : sm_M} {k : Nat} {f : Nat → Int32} : sm_uf M k f k = f := if_pos rfl
theorem sm_uj_ne {J : sm_J} {k i : Nat} {v : Int64} : ∀ a, a ≠ k → sm_uj J k i v a = J a := fun _ h => if_neg h
theorem sm_uj_eq {J : sm_J} {k i : Nat} {v : Int64} : sm_uj J k i v k = vp_updL (J k) i v := if_pos rfl
section SMS
variable {p : Program} {l : Launch} {e : Env} {R : Room} {s : State} {m : MethodId} {args : Array Value} {below : List Frame} {meth : Method} {c : Code} {Q : State → Prop} {cc : ByteArray} {D : va_G} {cl : List vw_C} {tys : List (ClassId × FieldType)} {A : Nat → Prop} {H0 : Heap} {nL : Nat} {cA : Nat → ClassId} {b : Nat} {ad0 : Nat → Nat} {n0 C1 S1 : Nat} {pc : Nat} {L : sm_L} {S : List Value} {h : sm_H} {r : sm_P}
theorem sm_s_iconst (hx : p.tables.exec = Jvm.exec) (hb : c.code = cc) {n : Int} (hd : decode cc pc = .ok (.iconst n, 1)) (hi : some (pc + 1, L, .int (Int32.ofInt n) :: S, h) = some r) (k : sm_W p l e R s m args below meth c Q D cl A H0 nL cA b ad0 n0 C1 S1 r.1 r.2.1 r.2.2.1 r.2.2.2) : sm_W p l e R s m args below meth c Q D cl A H0 nL cA b ad0 n0 C1 S1 pc L S h := by
  cases hi
  intro ad H locs ls e1 hP hD hS hl
  exact lv_iconst hx hb hd rfl (k ad H locs ls e1 hP hD hS hl)
theorem sm_s_bipush (hx : p.tables.exec = Jvm.exec) (hb : c.code = cc) {n : Int} (hd : decode cc pc = .ok (.bipush n, 2)) (hi : some (pc + 2, L, .int (Int8.ofInt n).toInt32 :: S, h) = some r) (k : sm_W p l e R s m args below meth c Q D cl A H0 nL cA b ad0 n0 C1 S1 r.1 r.2.1 r.2.2.1 r.2.2.2) : sm_W p l e R s m args below meth c Q D cl A H0 nL cA b ad0 n0 C1 S1 pc L S h := by
  cases hi
  intro ad H locs ls e1 hP hD hS hl
  exact lv_bipush hx hb hd rfl (k ad H locs ls e1 hP hD hS hl)
theorem sm_s_sipush (hx : p.tables.exec = Jvm.exec) (hb : c.code = cc) {n : Int} (hd : decode cc pc = .ok (.sipush n, 3)) (hi : some (pc + 3, L, .int (Int16.ofInt n).toInt32 :: S, h) = some r) (k : sm_W p l e R s m args below meth c Q D cl A H0 nL cA b ad0 n0 C1 S1 r.1 r.2.1 r.2.2.1 r.2.2.2) : sm_W p l e R s m args below meth c Q D cl A H0 nL cA b ad0 n0 C1 S1 pc L S h := by
  cases hi
  intro ad H locs ls e1 hP hD hS hl
  exact lv_sipush hx hb hd rfl (k ad H locs ls e1 hP hD hS hl)
theorem sm_s_lconst (hx : p.tables.exec = Jvm.exec) (hb : c.code = cc) {n : Fin 2} (hd : decode cc pc = .ok (.lconst n, 1)) (hi : some (pc + 1, L, .long (Int64.ofNat n.val) :: S, h) = some r) (k : sm_W p l e R s m args below meth c Q D cl A H0 nL cA b ad0 n0 C1 S1 r.1 r.2.1 r.2.2.1 r.2.2.2) : sm_W p l e R s m args below meth c Q D cl A H0 nL cA b ad0 n0 C1 S1 pc L S h := by
  cases hi
  intro ad H locs ls e1 hP hD hS hl
  exact lv_lconst hx hb hd rfl (k ad H locs ls e1 hP hD hS hl)
theorem sm_s_iload (hx : p.tables.exec = Jvm.exec) (hb : c.code = cc) {i : Nat} (hd : decode cc pc = .ok (.iload i, 2)) (hi : sm_lint (pc + 2) L S h i = some r) (k : sm_W p l e R s m args below meth c Q D cl A H0 nL cA b ad0 n0 C1 S1 r.1 r.2.1 r.2.2.1 r.2.2.2) : sm_W p l e R s m args below meth c Q D cl A H0 nL cA b ad0 n0 C1 S1 pc L S h := by
  unfold sm_lint at hi
  split at hi
  · next x hL =>
    cases hi
    intro ad H locs ls e1 hP hD hS hl
    exact lv_iload hx hb hd (hl.2.2.2 _ _ hL).1 (k ad H locs ls e1 hP hD hS hl)
  · cases hi
theorem sm_s_iload_n (hx : p.tables.exec = Jvm.exec) (hb : c.code = cc) {i : Fin 4} (hd : decode cc pc = .ok (.iload_n i, 1)) (hi : sm_lint (pc + 1) L S h i.val = some r) (k : sm_W p l e R s m args below meth c Q D cl A H0 nL cA b ad0 n0 C1 S1 r.1 r.2.1 r.2.2.1 r.2.2.2) : sm_W p l e R s m args below meth c Q D cl A H0 nL cA b ad0 n0 C1 S1 pc L S h := by
  unfold sm_lint at hi
  split at hi
  · next x hL =>
    cases hi
    intro ad H locs ls e1 hP hD hS hl
    exact lv_iload_n hx hb hd rfl (hl.2.2.2 _ _ hL).1 (k ad H locs ls e1 hP hD hS hl)
  · cases hi
theorem sm_s_aload (hx : p.tables.exec = Jvm.exec) (hb : c.code = cc) {i : Nat} (hd : decode cc pc = .ok (.aload i, 2)) (hi : sm_lref (pc + 2) L S h i = some r) (k : sm_W p l e R s m args below meth c Q D cl A H0 nL cA b ad0 n0 C1 S1 r.1 r.2.1 r.2.2.1 r.2.2.2) : sm_W p l e R s m args below meth c Q D cl A H0 nL cA b ad0 n0 C1 S1 pc L S h := by
  unfold sm_lref at hi
  split at hi
  · next x hL =>
    cases hi
    intro ad H locs ls e1 hP hD hS hl
    exact lv_aload hx hb hd (hl.2.2.2 _ _ hL).1 (k ad H locs ls e1 hP hD hS hl)
  · next x hL =>
    cases hi
    intro ad H locs ls e1 hP hD hS hl
    exact lv_aload hx hb hd (hl.2.2.2 _ _ hL).1 (k ad H locs ls e1 hP hD hS hl)
  · cases hi
theorem sm_s_aload_n (hx : p.tables.exec = Jvm.exec) (hb : c.code = cc) {i : Fin 4} (hd : decode cc pc = .ok (.aload_n i, 1)) (hi : sm_lref (pc + 1) L S h i.val = some r) (k : sm_W p l e R s m args below meth c Q D cl A H0 nL cA b ad0 n0 C1 S1 r.1 r.2.1 r.2.2.1 r.2.2.2) : sm_W p l e R s m args below meth c Q D cl A H0 nL cA b ad0 n0 C1 S1 pc L S h := by
  unfold sm_lref at hi
  split at hi
  · next x hL =>
    cases hi
    intro ad H locs ls e1 hP hD hS hl
    exact lv_aload_n hx hb hd rfl (hl.2.2.2 _ _ hL).1 (k ad H locs ls e1 hP hD hS hl)
  · next x hL =>
    cases hi
    intro ad H locs ls e1 hP hD hS hl
    exact lv_aload_n hx hb hd rfl (hl.2.2.2 _ _ hL).1 (k ad H locs ls e1 hP hD hS hl)
  · cases hi
theorem sm_s_istore (hx : p.tables.exec = Jvm.exec) (hb : c.code = cc) {i : Nat} (hi0 : i < nL) (hd : decode cc pc = .ok (.istore i, 2)) (hi : sm_sint (pc + 2) L S h i = some r) (k : sm_W p l e R s m args below meth c Q D cl A H0 nL cA b ad0 n0 C1 S1 r.1 r.2.1 r.2.2.1 r.2.2.2) : sm_W p l e R s m args below meth c Q D cl A H0 nL cA b ad0 n0 C1 S1 pc L S h := by
  unfold sm_sint at hi
  split at hi
  · cases hi
    intro ad H locs ls e1 hP hD hS hl
    exact lv_istore hx hb hd (sm_l_has hl) hi0 rfl (fun ls' hl' => k ad H locs ls' e1 hP hD hS (sm_l_st hl rfl hl'))
  · cases hi
theorem sm_s_istore_n (hx : p.tables.exec = Jvm.exec) (hb : c.code = cc) {i : Fin 4} (hi0 : i.val < nL) (hd : decode cc pc = .ok (.istore_n i, 1)) (hi : sm_sint (pc + 1) L S h i.val = some r) (k : sm_W p l e R s m args below meth c Q D cl A H0 nL cA b ad0 n0 C1 S1 r.1 r.2.1 r.2.2.1 r.2.2.2) : sm_W p l e R s m args below meth c Q D cl A H0 nL cA b ad0 n0 C1 S1 pc L S h := by
  unfold sm_sint at hi
  split at hi
  · cases hi
    intro ad H locs ls e1 hP hD hS hl
    exact lv_istore_n hx hb hd rfl (sm_l_has hl) hi0 rfl (fun ls' hl' => k ad H locs ls' e1 hP hD hS (sm_l_st hl rfl hl'))
  · cases hi
theorem sm_s_astore (hx : p.tables.exec = Jvm.exec) (hb : c.code = cc) {i : Nat} (hi0 : i < nL) (hd : decode cc pc = .ok (.astore i, 2)) (hi : sm_sref (pc + 2) L S h i = some r) (k : sm_W p l e R s m args below meth c Q D cl A H0 nL cA b ad0 n0 C1 S1 r.1 r.2.1 r.2.2.1 r.2.2.2) : sm_W p l e R s m args below meth c Q D cl A H0 nL cA b ad0 n0 C1 S1 pc L S h := by
  unfold sm_sref at hi
  split at hi
  · cases hi
    intro ad H locs ls e1 hP hD hS hl
    exact lv_astore hx hb hd (sm_l_has hl) hi0 rfl (fun ls' hl' => k ad H locs ls' e1 hP hD hS (sm_l_st hl rfl hl'))
  · cases hi
theorem sm_s_astore_n (hx : p.tables.exec = Jvm.exec) (hb : c.code = cc) {i : Fin 4} (hi0 : i.val < nL) (hd : decode cc pc = .ok (.astore_n i, 1)) (hi : sm_sref (pc + 1) L S h i.val = some r) (k : sm_W p l e R s m args below meth c Q D cl A H0 nL cA b ad0 n0 C1 S1 r.1 r.2.1 r.2.2.1 r.2.2.2) : sm_W p l e R s m args below meth c Q D cl A H0 nL cA b ad0 n0 C1 S1 pc L S h := by
  unfold sm_sref at hi
  split at hi
  · cases hi
    intro ad H locs ls e1 hP hD hS hl
    exact lv_astore_n hx hb hd rfl (sm_l_has hl) hi0 rfl (fun ls' hl' => k ad H locs ls' e1 hP hD hS (sm_l_st hl rfl hl'))
  · cases hi
theorem sm_s_iinc (hx : p.tables.exec = Jvm.exec) (hb : c.code = cc) {i : Nat} {n : Int} (hi0 : i < nL) (hd : decode cc pc = .ok (.iinc i n, 3)) (hi : sm_inc (pc + 3) L S h i n = some r) (k : sm_W p l e R s m args below meth c Q D cl A H0 nL cA b ad0 n0 C1 S1 r.1 r.2.1 r.2.2.1 r.2.2.2) : sm_W p l e R s m args below meth c Q D cl A H0 nL cA b ad0 n0 C1 S1 pc L S h := by
  unfold sm_inc at hi
  split at hi
  · next x hL =>
    cases hi
    intro ad H locs ls e1 hP hD hS hl
    obtain ⟨j, hj⟩ := List.getElem?_of_mem (sm_lv_mem (b := b) (ad := ad) (q := (i, .int x)).mpr ⟨_, hL, rfl⟩)
    exact lv_iinc hx hb hd (sm_l_has hl) hj rfl hi0 rfl (fun ls' hl' => k ad H locs ls' e1 hP hD hS (sm_l_st (v := .int _) hl rfl hl'))
  · cases hi
theorem sm_s_iadd (hx : p.tables.exec = Jvm.exec) (hb : c.code = cc) (hd : decode cc pc = .ok (.iadd, 1)) (hi : sm_bin (pc + 1) L S h (fun x y => x + y) = some r) (k : sm_W p l e R s m args below meth c Q D cl A H0 nL cA b ad0 n0 C1 S1 r.1 r.2.1 r.2.2.1 r.2.2.2) : sm_W p l e R s m args below meth c Q D cl A H0 nL cA b ad0 n0 C1 S1 pc L S h := by
  unfold sm_bin at hi
  split at hi
  · cases hi
    intro ad H locs ls e1 hP hD hS hl
    exact lv_iadd hx hb hd (k ad H locs ls e1 hP hD hS hl)
  · cases hi
theorem sm_s_isub (hx : p.tables.exec = Jvm.exec) (hb : c.code = cc) (hd : decode cc pc = .ok (.isub, 1)) (hi : sm_bin (pc + 1) L S h (fun x y => x - y) = some r) (k : sm_W p l e R s m args below meth c Q D cl A H0 nL cA b ad0 n0 C1 S1 r.1 r.2.1 r.2.2.1 r.2.2.2) : sm_W p l e R s m args below meth c Q D cl A H0 nL cA b ad0 n0 C1 S1 pc L S h := by
  unfold sm_bin at hi
  split at hi
  · cases hi
    intro ad H locs ls e1 hP hD hS hl
    exact lv_isub hx hb hd (k ad H locs ls e1 hP hD hS hl)
  · cases hi
theorem sm_s_imul (hx : p.tables.exec = Jvm.exec) (hb : c.code = cc) (hd : decode cc pc = .ok (.imul, 1)) (hi : sm_bin (pc + 1) L S h (fun x y => x * y) = some r) (k : sm_W p l e R s m args below meth c Q D cl A H0 nL cA b ad0 n0 C1 S1 r.1 r.2.1 r.2.2.1 r.2.2.2) : sm_W p l e R s m args below meth c Q D cl A H0 nL cA b ad0 n0 C1 S1 pc L S h := by
  unfold sm_bin at hi
  split at hi
  · cases hi
    intro ad H locs ls e1 hP hD hS hl
    exact lv_imul hx hb hd (k ad H locs ls e1 hP hD hS hl)
  · cases hi
theorem sm_s_iand (hx : p.tables.exec = Jvm.exec) (hb : c.code = cc) (hd : decode cc pc = .ok (.iand, 1)) (hi : sm_bin (pc + 1) L S h (fun x y => x &&& y) = some r) (k : sm_W p l e R s m args below meth c Q D cl A H0 nL cA b ad0 n0 C1 S1 r.1 r.2.1 r.2.2.1 r.2.2.2) : sm_W p l e R s m args below meth c Q D cl A H0 nL cA b ad0 n0 C1 S1 pc L S h := by
  unfold sm_bin at hi
  split at hi
  · cases hi
    intro ad H locs ls e1 hP hD hS hl
    exact lv_iand hx hb hd (k ad H locs ls e1 hP hD hS hl)
  · cases hi
theorem sm_s_ior (hx : p.tables.exec = Jvm.exec) (hb : c.code = cc) (hd : decode cc pc = .ok (.ior, 1)) (hi : sm_bin (pc + 1) L S h (fun x y => x ||| y) = some r) (k : sm_W p l e R s m args below meth c Q D cl A H0 nL cA b ad0 n0 C1 S1 r.1 r.2.1 r.2.2.1 r.2.2.2) : sm_W p l e R s m args below meth c Q D cl A H0 nL cA b ad0 n0 C1 S1 pc L S h := by
  unfold sm_bin at hi
  split at hi
  · cases hi
    intro ad H locs ls e1 hP hD hS hl
    exact lv_ior hx hb hd (k ad H locs ls e1 hP hD hS hl)
  · cases hi
theorem sm_s_ixor (hx : p.tables.exec = Jvm.exec) (hb : c.code = cc) (hd : decode cc pc = .ok (.ixor, 1)) (hi : sm_bin (pc + 1) L S h (fun x y => x ^^^ y) = some r) (k : sm_W p l e R s m args below meth c Q D cl A H0 nL cA b ad0 n0 C1 S1 r.1 r.2.1 r.2.2.1 r.2.2.2) : sm_W p l e R s m args below meth c Q D cl A H0 nL cA b ad0 n0 C1 S1 pc L S h := by
  unfold sm_bin at hi
  split at hi
  · cases hi
    intro ad H locs ls e1 hP hD hS hl
    exact lv_ixor hx hb hd (k ad H locs ls e1 hP hD hS hl)
  · cases hi
theorem sm_s_ishl (hx : p.tables.exec = Jvm.exec) (hb : c.code = cc) (hd : decode cc pc = .ok (.ishl, 1)) (hi : sm_bin (pc + 1) L S h (fun x y => x <<< (y &&& 31)) = some r) (k : sm_W p l e R s m args below meth c Q D cl A H0 nL cA b ad0 n0 C1 S1 r.1 r.2.1 r.2.2.1 r.2.2.2) : sm_W p l e R s m args below meth c Q D cl A H0 nL cA b ad0 n0 C1 S1 pc L S h := by
  unfold sm_bin at hi
  split at hi
  · cases hi
    intro ad H locs ls e1 hP hD hS hl
    exact lv_ishl hx hb hd (k ad H locs ls e1 hP hD hS hl)
  · cases hi
theorem sm_s_ishr (hx : p.tables.exec = Jvm.exec) (hb : c.code = cc) (hd : decode cc pc = .ok (.ishr, 1)) (hi : sm_bin (pc + 1) L S h (fun x y => x >>> (y &&& 31)) = some r) (k : sm_W p l e R s m args below meth c Q D cl A H0 nL cA b ad0 n0 C1 S1 r.1 r.2.1 r.2.2.1 r.2.2.2) : sm_W p l e R s m args below meth c Q D cl A H0 nL cA b ad0 n0 C1 S1 pc L S h := by
  unfold sm_bin at hi
  split at hi
  · cases hi
    intro ad H locs ls e1 hP hD hS hl
    exact lv_ishr hx hb hd (k ad H locs ls e1 hP hD hS hl)
  · cases hi
theorem sm_tgt_eq {pc : Nat} {off : Int} (h : 0 ≤ (pc : Int) + off) : (pc : Int) + off = (sm_tgt pc off : Int) := (Int.toNat_of_nonneg h).symm
theorem sm_sel_t {c : ClassFile.Cond} {x y : Int32} {a b : Nat} (h : sm_cnd c x y) : sm_sel c x y a b = a := @if_pos _ (sm_dec c x y) h _ _ _
theorem sm_sel_f {c : ClassFile.Cond} {x y : Int32} {a b : Nat} (h : ¬ sm_cnd c x y) : sm_sel c x y a b = b := @if_neg _ (sm_dec c x y) h _ _ _
theorem sm_s_if (hx : p.tables.exec = Jvm.exec) (hb : c.code = cc) {q : ClassFile.Cond} {off : Int} (hd : decode cc pc = .ok (.ifCond q off, 3)) (hi : sm_br pc off L S h q = some r) (k : sm_W p l e R s m args below meth c Q D cl A H0 nL cA b ad0 n0 C1 S1 r.1 r.2.1 r.2.2.1 r.2.2.2) : sm_W p l e R s m args below meth c Q D cl A H0 nL cA b ad0 n0 C1 S1 pc L S h := by
  unfold sm_br at hi
  split at hi
  · split at hi
    · next ht =>
      cases hi
      intro ad H locs ls e1 hP hD hS hl
      have hp := sm_tgt_eq ht
      cases q
      · refine lv_if_eq hx hb hd hp (fun hc => ?_) (fun hc => ?_)
        · have k := k ad H locs ls e1 hP hD hS hl
          rw [sm_sel_t (c := .eq) hc] at k
          exact k
        · have k := k ad H locs ls e1 hP hD hS hl
          rw [sm_sel_f (c := .eq) (hc)] at k
          exact k
      · refine lv_if_ne hx hb hd hp (fun hc => ?_) (fun hc => ?_)
        · have k := k ad H locs ls e1 hP hD hS hl
          rw [sm_sel_t (c := .ne) hc] at k
          exact k
        · have k := k ad H locs ls e1 hP hD hS hl
          rw [sm_sel_f (c := .ne) (fun z => z hc)] at k
          exact k
      · refine lv_if_lt hx hb hd hp (fun hc => ?_) (fun hc => ?_)
        · have k := k ad H locs ls e1 hP hD hS hl
          rw [sm_sel_t (c := .lt) hc] at k
          exact k
        · have k := k ad H locs ls e1 hP hD hS hl
          rw [sm_sel_f (c := .lt) (hc)] at k
          exact k
      · refine lv_if_ge hx hb hd hp (fun hc => ?_) (fun hc => ?_)
        · have k := k ad H locs ls e1 hP hD hS hl
          rw [sm_sel_t (c := .ge) hc] at k
          exact k
        · have k := k ad H locs ls e1 hP hD hS hl
          rw [sm_sel_f (c := .ge) (hc)] at k
          exact k
      · refine lv_if_gt hx hb hd hp (fun hc => ?_) (fun hc => ?_)
        · have k := k ad H locs ls e1 hP hD hS hl
          rw [sm_sel_t (c := .gt) hc] at k
          exact k
        · have k := k ad H locs ls e1 hP hD hS hl
          rw [sm_sel_f (c := .gt) (hc)] at k
          exact k
      · refine lv_if_le hx hb hd hp (fun hc => ?_) (fun hc => ?_)
        · have k := k ad H locs ls e1 hP hD hS hl
          rw [sm_sel_t (c := .le) hc] at k
          exact k
        · have k := k ad H locs ls e1 hP hD hS hl
          rw [sm_sel_f (c := .le) (hc)] at k
          exact k
    · cases hi
  · cases hi
theorem sm_s_icmp (hx : p.tables.exec = Jvm.exec) (hb : c.code = cc) {q : ClassFile.Cond} {off : Int} (hd : decode cc pc = .ok (.if_icmp q off, 3)) (hi : sm_br2 pc off L S h q = some r) (k : sm_W p l e R s m args below meth c Q D cl A H0 nL cA b ad0 n0 C1 S1 r.1 r.2.1 r.2.2.1 r.2.2.2) : sm_W p l e R s m args below meth c Q D cl A H0 nL cA b ad0 n0 C1 S1 pc L S h := by
  unfold sm_br2 at hi
  split at hi
  · split at hi
    · next ht =>
      cases hi
      intro ad H locs ls e1 hP hD hS hl
      have hp := sm_tgt_eq ht
      cases q
      · refine lv_icmp_eq hx hb hd hp (fun hc => ?_) (fun hc => ?_)
        · have k := k ad H locs ls e1 hP hD hS hl
          rw [sm_sel_t (c := .eq) hc] at k
          exact k
        · have k := k ad H locs ls e1 hP hD hS hl
          rw [sm_sel_f (c := .eq) (hc)] at k
          exact k
      · refine lv_icmp_ne hx hb hd hp (fun hc => ?_) (fun hc => ?_)
        · have k := k ad H locs ls e1 hP hD hS hl
          rw [sm_sel_t (c := .ne) hc] at k
          exact k
        · have k := k ad H locs ls e1 hP hD hS hl
          rw [sm_sel_f (c := .ne) (fun z => z hc)] at k
          exact k
      · refine lv_icmp_lt hx hb hd hp (fun hc => ?_) (fun hc => ?_)
        · have k := k ad H locs ls e1 hP hD hS hl
          rw [sm_sel_t (c := .lt) hc] at k
          exact k
        · have k := k ad H locs ls e1 hP hD hS hl
          rw [sm_sel_f (c := .lt) (hc)] at k
          exact k
      · refine lv_icmp_ge hx hb hd hp (fun hc => ?_) (fun hc => ?_)
        · have k := k ad H locs ls e1 hP hD hS hl
          rw [sm_sel_t (c := .ge) hc] at k
          exact k
        · have k := k ad H locs ls e1 hP hD hS hl
          rw [sm_sel_f (c := .ge) (hc)] at k
          exact k
      · refine lv_icmp_gt hx hb hd hp (fun hc => ?_) (fun hc => ?_)
        · have k := k ad H locs ls e1 hP hD hS hl
          rw [sm_sel_t (c := .gt) hc] at k
          exact k
        · have k := k ad H locs ls e1 hP hD hS hl
          rw [sm_sel_f (c := .gt) (hc)] at k
          exact k
      · refine lv_icmp_le hx hb hd hp (fun hc => ?_) (fun hc => ?_)
        · have k := k ad H locs ls e1 hP hD hS hl
          rw [sm_sel_t (c := .le) hc] at k
          exact k
        · have k := k ad H locs ls e1 hP hD hS hl
          rw [sm_sel_f (c := .le) (hc)] at k
          exact k
    · cases hi
  · cases hi
theorem sm_s_goto (hx : p.tables.exec = Jvm.exec) (hb : c.code = cc) {off : Int} (hd : decode cc pc = .ok (.goto off, 3)) (hi : sm_jmp pc off L S h = some r) (k : sm_W p l e R s m args below meth c Q D cl A H0 nL cA b ad0 n0 C1 S1 r.1 r.2.1 r.2.2.1 r.2.2.2) : sm_W p l e R s m args below meth c Q D cl A H0 nL cA b ad0 n0 C1 S1 pc L S h := by
  unfold sm_jmp at hi
  split at hi
  · next ht =>
    cases hi
    intro ad H locs ls e1 hP hD hS hl
    exact lv_goto hx hb hd (sm_tgt_eq ht) (k ad H locs ls e1 hP hD hS hl)
  · cases hi
theorem sm_s_table (hx : p.tables.exec = Jvm.exec) (hb : c.code = cc) {d lo hi0 : Int} {offs : Array Int} {len : Nat} (hd : decode cc pc = .ok (.tableswitch d lo hi0 offs, len)) (hi : sm_tab pc L S h d lo hi0 offs = some r) (k : sm_W p l e R s m args below meth c Q D cl A H0 nL cA b ad0 n0 C1 S1 r.1 r.2.1 r.2.2.1 r.2.2.2) : sm_W p l e R s m args below meth c Q D cl A H0 nL cA b ad0 n0 C1 S1 pc L S h := by
  unfold sm_tab at hi
  split at hi
  · split at hi
    · next hc =>
      unfold sm_jmp at hi
      split at hi
      · next ht =>
        cases hi
        intro ad H locs ls e1 hP hD hS hl
        exact lv_tableOut hx hb hd hc (sm_tgt_eq ht) (k ad H locs ls e1 hP hD hS hl)
      · cases hi
    · next hc =>
      split at hi
      · next off ho =>
        unfold sm_jmp at hi
        split at hi
        · next ht =>
          cases hi
          intro ad H locs ls e1 hP hD hS hl
          exact lv_tableIn hx hb hd (fun z => hc (Or.inl z)) (fun z => hc (Or.inr z)) ho (sm_tgt_eq ht) (k ad H locs ls e1 hP hD hS hl)
        · cases hi
      · cases hi
  · cases hi
theorem sm_s_pop (hx : p.tables.exec = Jvm.exec) (hb : c.code = cc) (hd : decode cc pc = .ok (.pop, 1)) (hi : sm_pop (pc + 1) L S h = some r) (k : sm_W p l e R s m args below meth c Q D cl A H0 nL cA b ad0 n0 C1 S1 r.1 r.2.1 r.2.2.1 r.2.2.2) : sm_W p l e R s m args below meth c Q D cl A H0 nL cA b ad0 n0 C1 S1 pc L S h := by
  unfold sm_pop at hi
  split at hi
  · cases hi
    intro ad H locs ls e1 hP hD hS hl
    exact lv_pop hx hb hd rfl (k ad H locs ls e1 hP hD hS hl)
  · cases hi
    intro ad H locs ls e1 hP hD hS hl
    exact lv_pop hx hb hd rfl (k ad H locs ls e1 hP hD hS hl)
  · cases hi
theorem sm_s_dup (hx : p.tables.exec = Jvm.exec) (hb : c.code = cc) (hd : decode cc pc = .ok (.dup, 1)) (hi : sm_dup (pc + 1) L S h = some r) (k : sm_W p l e R s m args below meth c Q D cl A H0 nL cA b ad0 n0 C1 S1 r.1 r.2.1 r.2.2.1 r.2.2.2) : sm_W p l e R s m args below meth c Q D cl A H0 nL cA b ad0 n0 C1 S1 pc L S h := by
  unfold sm_dup at hi
  split at hi
  · cases hi
    intro ad H locs ls e1 hP hD hS hl
    exact lv_dup hx hb hd rfl (k ad H locs ls e1 hP hD hS hl)
  · cases hi
    intro ad H locs ls e1 hP hD hS hl
    exact lv_dup hx hb hd rfl (k ad H locs ls e1 hP hD hS hl)
  · cases hi
theorem sm_s_dup_x1 (hx : p.tables.exec = Jvm.exec) (hb : c.code = cc) (hd : decode cc pc = .ok (.dup_x1, 1)) (hi : sm_dup_x1 (pc + 1) L S h = some r) (k : sm_W p l e R s m args below meth c Q D cl A H0 nL cA b ad0 n0 C1 S1 r.1 r.2.1 r.2.2.1 r.2.2.2) : sm_W p l e R s m args below meth c Q D cl A H0 nL cA b ad0 n0 C1 S1 pc L S h := by
  unfold sm_dup_x1 at hi
  split at hi
  · cases hi
    intro ad H locs ls e1 hP hD hS hl
    exact lv_dup_x1 hx hb hd rfl rfl (k ad H locs ls e1 hP hD hS hl)
  · cases hi
    intro ad H locs ls e1 hP hD hS hl
    exact lv_dup_x1 hx hb hd rfl rfl (k ad H locs ls e1 hP hD hS hl)
  · cases hi
theorem sm_s_dup_x2 (hx : p.tables.exec = Jvm.exec) (hb : c.code = cc) (hd : decode cc pc = .ok (.dup_x2, 1)) (hi : sm_dup_x2 (pc + 1) L S h = some r) (k : sm_W p l e R s m args below meth c Q D cl A H0 nL cA b ad0 n0 C1 S1 r.1 r.2.1 r.2.2.1 r.2.2.2) : sm_W p l e R s m args below meth c Q D cl A H0 nL cA b ad0 n0 C1 S1 pc L S h := by
  unfold sm_dup_x2 at hi
  split at hi
  · cases hi
    intro ad H locs ls e1 hP hD hS hl
    exact lv_dup_x2 hx hb hd rfl rfl rfl (k ad H locs ls e1 hP hD hS hl)
  · cases hi
theorem sm_s_dup2 (hx : p.tables.exec = Jvm.exec) (hb : c.code = cc) (hd : decode cc pc = .ok (.dup2, 1)) (hi : sm_dup2 (pc + 1) L S h = some r) (k : sm_W p l e R s m args below meth c Q D cl A H0 nL cA b ad0 n0 C1 S1 r.1 r.2.1 r.2.2.1 r.2.2.2) : sm_W p l e R s m args below meth c Q D cl A H0 nL cA b ad0 n0 C1 S1 pc L S h := by
  unfold sm_dup2 at hi
  split at hi
  · cases hi
    intro ad H locs ls e1 hP hD hS hl
    exact lv_dup2_11 hx hb hd rfl rfl (k ad H locs ls e1 hP hD hS hl)
  · cases hi
    intro ad H locs ls e1 hP hD hS hl
    exact lv_dup2_11 hx hb hd rfl rfl (k ad H locs ls e1 hP hD hS hl)
  · cases hi
theorem sm_s_i2l (hx : p.tables.exec = Jvm.exec) (hb : c.code = cc) (hd : decode cc pc = .ok (.i2l, 1)) (hi : sm_i2l (pc + 1) L S h = some r) (k : sm_W p l e R s m args below meth c Q D cl A H0 nL cA b ad0 n0 C1 S1 r.1 r.2.1 r.2.2.1 r.2.2.2) : sm_W p l e R s m args below meth c Q D cl A H0 nL cA b ad0 n0 C1 S1 pc L S h := by
  unfold sm_i2l at hi
  split at hi
  · cases hi
    intro ad H locs ls e1 hP hD hS hl
    exact lv_i2l hx hb hd rfl (k ad H locs ls e1 hP hD hS hl)
  · cases hi
theorem sm_s_lcmp (hx : p.tables.exec = Jvm.exec) (hb : c.code = cc) (hd : decode cc pc = .ok (.lcmp, 1)) (hi : sm_lcmp (pc + 1) L S h = some r) (k : sm_W p l e R s m args below meth c Q D cl A H0 nL cA b ad0 n0 C1 S1 r.1 r.2.1 r.2.2.1 r.2.2.2) : sm_W p l e R s m args below meth c Q D cl A H0 nL cA b ad0 n0 C1 S1 pc L S h := by
  unfold sm_lcmp at hi
  split at hi
  · cases hi
    intro ad H locs ls e1 hP hD hS hl
    exact W.lcmp hx hb hd (k ad H locs ls e1 hP hD hS hl)
  · cases hi
theorem sm_s_iaload (hx : p.tables.exec = Jvm.exec) (hb : c.code = cc) (hK : va_K D cl tys s) (ht : tys[0]? = some (cA 0, .int)) {X : Nat × (Nat → Int32)} (hX : va_X b X.1 X.2 s H0) (hbl : b < H0.size) (hbA : ¬ A b) (hd : decode cc pc = .ok (.iaload, 1)) (hi : sm_ald (pc + 1) L S h 0 X = some r) (k : sm_W p l e R s m args below meth c Q D cl A H0 nL cA b ad0 n0 C1 S1 r.1 r.2.1 r.2.2.1 r.2.2.2) : sm_W p l e R s m args below meth c Q D cl A H0 nL cA b ad0 n0 C1 S1 pc L S h := by
  unfold sm_ald at hi
  split at hi
  · split at hi
    · next hz =>
      split at hi
      · next hc =>
        cases hi
        obtain ⟨rfl, hc1, hc2⟩ := hc
        intro ad H locs ls e1 hP hD hS hl
        exact va_iald hx hb hK hP _ 0 (sm_w_get hz) ht (sm_inI hc1 hc2) hd (k ad H locs ls e1 hP hD hS hl)
      · cases hi
    · cases hi
  · split at hi
    · next hc =>
      cases hi
      intro ad H locs ls e1 hP hD hS hl
      exact va_sld hx hb hX hbl hbA hS (sm_inI hc.2.1 hc.2.2) hd (k ad H locs ls e1 hP hD hS hl)
    · cases hi
  · cases hi
theorem sm_s_baload (hx : p.tables.exec = Jvm.exec) (hb : c.code = cc) (hK : va_K D cl tys s) (ht : tys[1]? = some (cA 1, .boolean)) {X : Nat × (Nat → Int32)} (hX : va_X b X.1 X.2 s H0) (hbl : b < H0.size) (hbA : ¬ A b) (hd : decode cc pc = .ok (.baload, 1)) (hi : sm_ald (pc + 1) L S h 1 X = some r) (k : sm_W p l e R s m args below meth c Q D cl A H0 nL cA b ad0 n0 C1 S1 r.1 r.2.1 r.2.2.1 r.2.2.2) : sm_W p l e R s m args below meth c Q D cl A H0 nL cA b ad0 n0 C1 S1 pc L S h := by
  unfold sm_ald at hi
  split at hi
  · split at hi
    · next hz =>
      split at hi
      · next hc =>
        cases hi
        obtain ⟨rfl, hc1, hc2⟩ := hc
        intro ad H locs ls e1 hP hD hS hl
        exact va_zald hx hb hK hP _ 1 (sm_w_get hz) ht (sm_inI hc1 hc2) hd (k ad H locs ls e1 hP hD hS hl)
      · cases hi
    · cases hi
  · split at hi
    · next hc => exact absurd hc.1 (by decide)
    · cases hi
  · cases hi
theorem sm_s_iastore (hx : p.tables.exec = Jvm.exec) (hb : c.code = cc) (hK : va_K D cl tys s) (ht : tys[0]? = some (cA 0, .int)) (hd : decode cc pc = .ok (.iastore, 1)) (hi : sm_ast (pc + 1) L S h 0 = some r) (k : sm_W p l e R s m args below meth c Q D cl A H0 nL cA b ad0 n0 C1 S1 r.1 r.2.1 r.2.2.1 r.2.2.2) : sm_W p l e R s m args below meth c Q D cl A H0 nL cA b ad0 n0 C1 S1 pc L S h := by
  unfold sm_ast at hi
  split at hi
  · next x i q rest =>
    split at hi
    · next u n hz =>
      split at hi
      · next hc =>
        cases hi
        have hu := hc.1
        subst hu
        intro ad H locs ls e1 hP hD hS hl
        refine va_iast hx hb hK hP hD hS q 0 (sm_w_get hz) ht (sm_inI hc.2.1 hc.2.2.1) hd (fun H1 locs1 hP1 hD1 hS1 => ?_)
        have ew := sm_w_mem (cA := cA) (ad := ad) (sh := h.1) (M := h.2.1) (M' := sm_up h.2.1 q i.toNatClampNeg x) (J := h.2.2.1) (J' := h.2.2.1) (r := h.2.2.2) (r' := h.2.2.2) hz sm_up_ne (fun _ _ => rfl)
        simp only [sm_e, sm_up_eq] at ew
        exact k ad H1 locs1 ls e1 (by show va_P D cl (sm_w cA ad (h.1, sm_up h.2.1 q i.toNatClampNeg x, h.2.2.1, h.2.2.2)) H1; rw [ew]; exact hP1) (by show va_D A (sm_w cA ad (h.1, sm_up h.2.1 q i.toNatClampNeg x, h.2.2.1, h.2.2.2)); rw [ew]; exact hD1) hS1 hl
      · cases hi
    · cases hi
  · cases hi
theorem sm_s_bastore (hx : p.tables.exec = Jvm.exec) (hb : c.code = cc) (hK : va_K D cl tys s) (ht : tys[1]? = some (cA 1, .boolean)) (hd : decode cc pc = .ok (.bastore, 1)) (hi : sm_ast (pc + 1) L S h 1 = some r) (k : sm_W p l e R s m args below meth c Q D cl A H0 nL cA b ad0 n0 C1 S1 r.1 r.2.1 r.2.2.1 r.2.2.2) : sm_W p l e R s m args below meth c Q D cl A H0 nL cA b ad0 n0 C1 S1 pc L S h := by
  unfold sm_ast at hi
  split at hi
  · next x i q rest =>
    split at hi
    · next u n hz =>
      split at hi
      · next hc =>
        cases hi
        have hu := hc.1
        subst hu
        intro ad H locs ls e1 hP hD hS hl
        refine va_zast hx hb hK hP hD hS q 1 (sm_w_get hz) ht (sm_inI hc.2.1 hc.2.2.1) hd (fun H1 locs1 hP1 hD1 hS1 => ?_)
        have hv : vp_nar .boolean x = x := by
          rcases hc.2.2.2 with h9 | rfl | rfl
          · exact absurd h9 (by decide)
          · decide
          · decide
        rw [hv] at hP1 hD1
        have ew := sm_w_mem (cA := cA) (ad := ad) (sh := h.1) (M := h.2.1) (M' := sm_up h.2.1 q i.toNatClampNeg x) (J := h.2.2.1) (J' := h.2.2.1) (r := h.2.2.2) (r' := h.2.2.2) hz sm_up_ne (fun _ _ => rfl)
        simp only [sm_e, sm_up_eq] at ew
        exact k ad H1 locs1 ls e1 (by show va_P D cl (sm_w cA ad (h.1, sm_up h.2.1 q i.toNatClampNeg x, h.2.2.1, h.2.2.2)) H1; rw [ew]; exact hP1) (by show va_D A (sm_w cA ad (h.1, sm_up h.2.1 q i.toNatClampNeg x, h.2.2.1, h.2.2.2)); rw [ew]; exact hD1) hS1 hl
      · cases hi
    · cases hi
  · cases hi
theorem sm_s_laload (hx : p.tables.exec = Jvm.exec) (hb : c.code = cc) (hK : va_K D cl tys s) (ht : tys[2]? = some (cA 2, .long)) (hd : decode cc pc = .ok (.laload, 1)) (hi : sm_lald (pc + 1) L S h = some r) (k : sm_W p l e R s m args below meth c Q D cl A H0 nL cA b ad0 n0 C1 S1 r.1 r.2.1 r.2.2.1 r.2.2.2) : sm_W p l e R s m args below meth c Q D cl A H0 nL cA b ad0 n0 C1 S1 pc L S h := by
  unfold sm_lald at hi
  split at hi
  · split at hi
    · next hz =>
      split at hi
      · next hc =>
        cases hi
        intro ad H locs ls e1 hP hD hS hl
        exact va_lald hx hb hK hP _ 2 (sm_w_get hz) ht (sm_inI hc.1 hc.2) hd (k ad H locs ls e1 hP hD hS hl)
      · cases hi
    · cases hi
  · cases hi
theorem sm_s_lastore (hx : p.tables.exec = Jvm.exec) (hb : c.code = cc) (hK : va_K D cl tys s) (ht : tys[2]? = some (cA 2, .long)) (hd : decode cc pc = .ok (.lastore, 1)) (hi : sm_last (pc + 1) L S h = some r) (k : sm_W p l e R s m args below meth c Q D cl A H0 nL cA b ad0 n0 C1 S1 r.1 r.2.1 r.2.2.1 r.2.2.2) : sm_W p l e R s m args below meth c Q D cl A H0 nL cA b ad0 n0 C1 S1 pc L S h := by
  unfold sm_last at hi
  split at hi
  · next x i q rest =>
    split at hi
    · next n hz =>
      split at hi
      · next hc =>
        cases hi
        intro ad H locs ls e1 hP hD hS hl
        refine va_last hx hb hK hP hD hS q 2 (sm_w_get hz) ht (sm_inI hc.1 hc.2) hd (fun H1 locs1 hP1 hD1 hS1 => ?_)
        have ew := sm_w_mem (cA := cA) (ad := ad) (sh := h.1) (M := h.2.1) (M' := h.2.1) (J := h.2.2.1) (J' := sm_uj h.2.2.1 q i.toNatClampNeg x) (r := h.2.2.2) (r' := h.2.2.2) hz (fun _ _ => rfl) sm_uj_ne
        simp only [sm_e, sm_uj_eq] at ew
        exact k ad H1 locs1 ls e1 (by show va_P D cl (sm_w cA ad (h.1, h.2.1, sm_uj h.2.2.1 q i.toNatClampNeg x, h.2.2.2)) H1; rw [ew]; exact hP1) (by show va_D A (sm_w cA ad (h.1, h.2.1, sm_uj h.2.2.1 q i.toNatClampNeg x, h.2.2.2)); rw [ew]; exact hD1) hS1 hl
      · cases hi
    · cases hi
  · cases hi
theorem sm_s_alen (hx : p.tables.exec = Jvm.exec) (hb : c.code = cc) (hK : va_K D cl tys s) (ht : ∀ t, t < 6 → ∃ ty, tys[t]? = some (cA t, ty)) {X : Nat × (Nat → Int32)} (hX : va_X b X.1 X.2 s H0) (hbl : b < H0.size) (hbA : ¬ A b) (hd : decode cc pc = .ok (.arraylength, 1)) (hi : sm_alen (pc + 1) L S h X = some r) (k : sm_W p l e R s m args below meth c Q D cl A H0 nL cA b ad0 n0 C1 S1 r.1 r.2.1 r.2.2.1 r.2.2.2) : sm_W p l e R s m args below meth c Q D cl A H0 nL cA b ad0 n0 C1 S1 pc L S h := by
  unfold sm_alen at hi
  split at hi
  · split at hi
    · next t n hz =>
      split at hi
      · next hc =>
        cases hi
        intro ad H locs ls e1 hP hD hS hl
        obtain ⟨ty, h9⟩ := ht t hc
        exact va_alen hx hb hK hP _ t (sm_w_get hz) h9 rfl hd (k ad H locs ls e1 hP hD hS hl)
      · cases hi
    · next n hz =>
      cases hi
      intro ad H locs ls e1 hP hD hS hl
      obtain ⟨ty, h9⟩ := ht 2 (by decide)
      exact va_alen hx hb hK hP _ 2 (sm_w_get hz) h9 rfl hd (k ad H locs ls e1 hP hD hS hl)
    · next t rs hz =>
      split at hi
      · next hc =>
        cases hi
        intro ad H locs ls e1 hP hD hS hl
        obtain ⟨ty, h9⟩ := ht t hc
        exact va_alen hx hb hK hP _ t (sm_w_get hz) h9 rfl hd (k ad H locs ls e1 hP hD hS hl)
      · cases hi
    · cases hi
  · cases hi
    intro ad H locs ls e1 hP hD hS hl
    exact va_slen hx hb hX hbl hbA hS hd (k ad H locs ls e1 hP hD hS hl)
  · cases hi
end SMS
end
section
/-! ===== fields, references, new cells ===== -/
/-- a field's entry: its class, its place, and what the tables say of it (its own class's, or a nest mate's private one) -/
def sm_Fo (cl : List vw_C) (WA NW : List Cond) (own : String) (idx ci j bl : Nat) : Prop := ∃ (C : String) (T : u_T) (N : Nat) (ty : Nat → FieldType),
  cl[ci]? = some (C, T, N) ∧ j < N ∧ (∀ w ∈ u_ws C T N, w ∈ WA) ∧ (Cond.fieldLink own idx (T j).1 (T j).2.1 (T j).2.2.1 ∈ WA ∨ ∃ host, Cond.fieldLinkNest own idx (T j).1 (T j).2.1 (T j).2.2.1 host ∈ NW) ∧
  (∀ i, i < N → parseFieldDescriptor (T i).2.2.1 = some (ty i)) ∧ (∀ i, i < N → ∀ j, j < N → i ≠ j → (T i).2.1 ≠ (T j).2.1) ∧
  (bl = 0 → ty j = .int) ∧ (bl = 1 → ty j = .boolean) ∧ (bl = 2 → (∃ z, ty j = .object z) ∨ ∃ z, ty j = .array z)
/-- finals are put by constructors alone -/
def sm_Fp (cl : List vw_C) (WA : List Cond) (own : String) (idx : Nat) (ini : Bool) (ci j : Nat) : Prop := ∀ (C : String) (T : u_T) (N : Nat), cl[ci]? = some (C, T, N) → (T j).2.2.2 = true → ini = true ∧ (T j).1 = own ∧ Cond.fieldLink own idx (T j).1 (T j).2.1 (T j).2.2.1 ∈ WA
theorem sm_mapIdx_set {ad : Nat → Nat} {f : Nat → Int32} {fs : List (Option (Option Nat))} {k : Nat} {x : Int32} (hk : fs[k]? = some none) : fs.mapIdx (sm_f ad (upd f k x)) = (fs.mapIdx (sm_f ad f)).set k (.int x) := by
  apply List.ext_getElem?
  intro j
  have hl : k < fs.length := (List.getElem?_eq_some_iff.mp hk).1
  by_cases hj : j = k
  · subst hj
    rw [List.getElem?_set_self (by rw [List.length_mapIdx]; exact hl), List.getElem?_mapIdx, hk]
    simp [sm_f, upd]
  · rw [List.getElem?_set_ne (Ne.symm hj), List.getElem?_mapIdx, List.getElem?_mapIdx]
    cases fs[j]? with
    | none => rfl
    | some z =>
      match z with
      | none => simp [sm_f, upd, hj]
      | some none => rfl
      | some (some q) => rfl
section SMF
variable {p : Program} {l : Launch} {e : Env} {R : Room} {s : State} {m : MethodId} {args : Array Value} {below : List Frame} {meth : Method} {c : Code} {Q : State → Prop} {cc : ByteArray} {D : va_G} {cl : List vw_C} {tys : List (ClassId × FieldType)} {A : Nat → Prop} {H0 : Heap} {nL : Nat} {cA : Nat → ClassId} {b : Nat} {ad0 : Nat → Nat} {n0 C1 S1 : Nat} {pc : Nat} {L : sm_L} {S : List Value} {h : sm_H} {r : sm_P} {WA NW : List Cond} {own : String} {idx : Nat}
theorem sm_s_get (hx : p.tables.exec = Jvm.exec) (hb : c.code = cc) (hown : s.vm.findClass own = some m.cls) (hts : ∀ w ∈ WA, w.before args s = true) (hN : ∀ w ∈ NW, va_Nw w s) (hK : va_K D cl tys s) {f : Option (Nat × Nat × Nat)} (hf : ∀ ci j bl, f = some (ci, j, bl) → sm_Fo cl WA NW own idx ci j bl) (hd : decode cc pc = .ok (.getfield idx, 3)) (hi : sm_get (pc + 3) L S h f = some r) (k : sm_W p l e R s m args below meth c Q D cl A H0 nL cA b ad0 n0 C1 S1 r.1 r.2.1 r.2.2.1 r.2.2.2) : sm_W p l e R s m args below meth c Q D cl A H0 nL cA b ad0 n0 C1 S1 pc L S h := by
  unfold sm_get at hi
  split at hi
  · next ci j bl q rest =>
    obtain ⟨C, T, N, ty, hc, hj, hin, hlk, -⟩ := hf ci j bl rfl
    split at hi
    · next cj fs hz =>
      split at hi
      · next hcj =>
        subst hcj
        intro ad H locs ls e1 hP hD hS hl
        have go : ∀ v : Value, (fs.mapIdx (sm_f ad (h.2.1 q)))[j]? = some v → W p l e R s m args below meth c H locs (C1 - h.2.2.2.1) (S1 - h.2.2.2.2) Q (F0 m (pc + 3) ls (v :: rest.map (sm_v b ad))) → W p l e R s m args below meth c H locs (C1 - h.2.2.2.1) (S1 - h.2.2.2.2) Q (F0 m pc ls (.ref (ad q) :: rest.map (sm_v b ad))) := by
          intro v hv kk
          rcases hlk with hlk | ⟨host, hlk⟩
          · exact va_get hx hb hts hin hown hK hP q (sm_w_get hz) hc j hj (hts _ hlk) (fun _ h9 => h9) hv hd kk
          · exact va_getN hx hb hts hin hown hK hP q (sm_w_get hz) hc j hj (va_Nw.use rfl (hN _ hlk)) (fun _ h9 => h9) hv hd kk
        split at hi
        · next hfs =>
          cases hi
          exact go _ (by rw [List.getElem?_mapIdx, hfs]; rfl) (k ad H locs ls e1 hP hD hS hl)
        · next z hfs =>
          cases hi
          exact go _ (by rw [List.getElem?_mapIdx, hfs]; rfl) (k ad H locs ls e1 hP hD hS hl)
        · cases hi
      · cases hi
    · cases hi
  · cases hi
theorem sm_s_put (hx : p.tables.exec = Jvm.exec) (hb : c.code = cc) (hown : s.vm.findClass own = some m.cls) (hts : ∀ w ∈ WA, w.before args s = true) (hN : ∀ w ∈ NW, va_Nw w s) (hK : va_K D cl tys s) {f : Option (Nat × Nat × Nat)} {ini : Bool} (hini : ini = true → meth.name = "<init>") (hf : ∀ ci j bl, f = some (ci, j, bl) → sm_Fo cl WA NW own idx ci j bl) (hf2 : ∀ ci j bl, f = some (ci, j, bl) → sm_Fp cl WA own idx ini ci j) (hd : decode cc pc = .ok (.putfield idx, 3)) (hi : sm_put (pc + 3) L S h f = some r) (k : sm_W p l e R s m args below meth c Q D cl A H0 nL cA b ad0 n0 C1 S1 r.1 r.2.1 r.2.2.1 r.2.2.2) : sm_W p l e R s m args below meth c Q D cl A H0 nL cA b ad0 n0 C1 S1 pc L S h := by
  have gen : ∀ (ci j bl q : Nat) (fs : List (Option (Option Nat))) (v : Value) (rest : List Value) (ad : Nat → Nat) (H : Heap) (locs : List Loc) (ls : Array Slot), f = some (ci, j, bl) → h.1[q]? = some (.inl (ci, fs)) → j < fs.length → (∀ t : FieldType, ((bl = 0 → t = .int) ∧ (bl = 1 → t = .boolean) ∧ (bl = 2 → (∃ z, t = .object z) ∨ ∃ z, t = .array z)) → narrow t v = v ∧ fits t v = true) →
      va_P D cl (sm_w cA ad h) H → va_D A (sm_w cA ad h) → va_S A H0 H locs →
      (∀ (H1 : Heap) (locs1 : List Loc), va_P D cl ((sm_w cA ad h).set q (ad q, .inr (ci, (fs.mapIdx (sm_f ad (h.2.1 q))).set j v))) H1 → va_D A ((sm_w cA ad h).set q (ad q, .inr (ci, (fs.mapIdx (sm_f ad (h.2.1 q))).set j v))) → va_S A H0 H1 locs1 → W p l e R s m args below meth c H1 locs1 (C1 - h.2.2.2.1) (S1 - h.2.2.2.2) Q (F0 m (pc + 3) ls (rest.map (sm_v b ad)))) →
      W p l e R s m args below meth c H locs (C1 - h.2.2.2.1) (S1 - h.2.2.2.2) Q (F0 m pc ls (v :: .ref (ad q) :: rest.map (sm_v b ad))) := by
    intro ci j bl q fs v rest ad H locs ls hfe hz hjl hfit hP hD hS kk
    obtain ⟨C, T, N, ty, hc, hj, hin, hlk, hty, hnm, hbb⟩ := hf ci j bl hfe
    have hp := hf2 ci j bl hfe C T N hc
    obtain ⟨w1, w2⟩ := hfit (ty j) hbb
    have hl2 : j < (fs.mapIdx (sm_f ad (h.2.1 q))).length := by rw [List.length_mapIdx]; exact hjl
    by_cases hF : (T j).2.2.2 = true
    · obtain ⟨g0, g1, g2⟩ := hp hF
      exact va_putF hx hb hts hin ty hty hnm hown hK hP hD hS q (sm_w_get hz) hc j hj (hts _ g2) (fun _ h9 => h9) hF (hini g0) g1 (hty j hj) w1 w2 hl2 hd kk
    · have hF : (T j).2.2.2 = false := by simpa using hF
      rcases hlk with hlk | ⟨host, hlk⟩
      · exact va_put hx hb hts hin ty hty hnm hown hK hP hD hS q (sm_w_get hz) hc j hj (hts _ hlk) (fun _ h9 => h9) hF (hty j hj) w1 w2 hl2 hd kk
      · exact va_putN hx hb hts hin ty hty hnm hown hK hP hD hS q (sm_w_get hz) hc j hj (va_Nw.use rfl (hN _ hlk)) (fun _ h9 => h9) hF (hty j hj) w1 w2 hl2 hd kk
  unfold sm_put at hi
  split at hi
  · next ci j bl x q rest =>
    split at hi
    · next cj fs hz =>
      split at hi
      · next hcj =>
        obtain ⟨hcj, hfs, hbl⟩ := hcj
        subst hcj
        cases hi
        intro ad H locs ls e1 hP hD hS hl
        refine gen ci j bl q fs (.int x) rest ad H locs ls rfl hz (List.getElem?_eq_some_iff.mp hfs).1 ?_ hP hD hS (fun H1 locs1 hP1 hD1 hS1 => ?_)
        · intro t ht
          rcases hbl with rfl | ⟨rfl, hbl⟩
          · rw [ht.1 rfl]
            exact ⟨vp_nar_int x, rfl⟩
          · rw [ht.2.1 rfl]
            rcases hbl with rfl | rfl <;> exact ⟨by decide, by decide⟩
        · have ew := sm_w_mem (cA := cA) (ad := ad) (sh := h.1) (M := h.2.1) (M' := sm_up h.2.1 q j x) (J := h.2.2.1) (J' := h.2.2.1) (r := h.2.2.2) (r' := h.2.2.2) hz sm_up_ne (fun _ _ => rfl)
          simp only [sm_e, sm_up_eq, sm_mapIdx_set hfs] at ew
          exact k ad H1 locs1 ls e1 (by show va_P D cl (sm_w cA ad (h.1, sm_up h.2.1 q j x, h.2.2.1, h.2.2.2)) H1; rw [ew]; exact hP1) (by show va_D A (sm_w cA ad (h.1, sm_up h.2.1 q j x, h.2.2.1, h.2.2.2)); rw [ew]; exact hD1) hS1 hl
      · cases hi
    · cases hi
  · next ci j bl z q rest =>
    split at hi
    · next cj fs hz =>
      split at hi
      · next hcj =>
        obtain ⟨hcj, hb2, hfs⟩ := hcj
        subst hcj
        cases hi
        intro ad H locs ls e1 hP hD hS hl
        have hjl : j < fs.length := by
          cases h9 : fs[j]? with
          | none => rw [h9] at hfs; cases hfs
          | some _ => exact (List.getElem?_eq_some_iff.mp h9).1
        refine gen ci j bl q fs (.ref (ad z)) rest ad H locs ls rfl hz hjl ?_ hP hD hS (fun H1 locs1 hP1 hD1 hS1 => ?_)
        · intro t ht
          rcases ht.2.2 hb2 with ⟨z, rfl⟩ | ⟨z, rfl⟩
          · exact ⟨rfl, rfl⟩
          · exact ⟨rfl, rfl⟩
        · have ew := sm_w_shp (cA := cA) (ad := ad) (sh := h.1) (M := h.2.1) (J := h.2.2.1) (r := h.2.2.2) (r' := h.2.2.2) (k := q) (z' := .inl (ci, fs.set j (some (some z))))
          have e2 : (fs.set j (some (some z))).mapIdx (sm_f ad (h.2.1 q)) = (fs.mapIdx (sm_f ad (h.2.1 q))).set j (.ref (ad z)) := List.mapIdx_set
          simp only [sm_e, e2] at ew
          exact k ad H1 locs1 ls (fun k9 h9 => e1 k9 (by simpa using h9)) (by show va_P D cl (sm_w cA ad (h.1.set q (.inl (ci, fs.set j (some (some z)))), h.2.1, h.2.2.1, h.2.2.2)) H1; rw [ew]; exact hP1) (by show va_D A (sm_w cA ad (h.1.set q (.inl (ci, fs.set j (some (some z)))), h.2.1, h.2.2.1, h.2.2.2)); rw [ew]; exact hD1) hS1 hl
      · cases hi
    · cases hi
  · cases hi
theorem sm_s_aaload (hx : p.tables.exec = Jvm.exec) (hb : c.code = cc) (hK : va_K D cl tys s) (ht : ∀ t, t < 6 → ∃ ty, tys[t]? = some (cA t, ty)) (ht2 : ∀ t ty, 3 ≤ t → t < 6 → tys[t]? = some (cA t, ty) → ∃ C, ty = .object C) (hd : decode cc pc = .ok (.aaload, 1)) (hi : sm_aald (pc + 1) L S h = some r) (k : sm_W p l e R s m args below meth c Q D cl A H0 nL cA b ad0 n0 C1 S1 r.1 r.2.1 r.2.2.1 r.2.2.2) : sm_W p l e R s m args below meth c Q D cl A H0 nL cA b ad0 n0 C1 S1 pc L S h := by
  unfold sm_aald at hi
  split at hi
  · next i q rest =>
    split at hi
    · next t rs hz =>
      split at hi
      · next hc =>
        split at hi
        · next z hr =>
          cases hi
          obtain ⟨ty, h9⟩ := ht t hc.2.2.2
          obtain ⟨C, rfl⟩ := ht2 t ty hc.2.2.1 hc.2.2.2 h9
          intro ad H locs ls e1 hP hD hS hl
          refine va_aldq hx hb hK hP q t (sm_w_get hz) h9 (sm_inI hc.1 hc.2.1) hd ?_
          rw [hr]
          exact k ad H locs ls e1 hP hD hS hl
        · cases hi
      · cases hi
    · cases hi
  · cases hi
theorem sm_s_aastore (hx : p.tables.exec = Jvm.exec) (hb : c.code = cc) (hK : va_K D cl tys s) {ok : Nat → Nat → Bool} (hok : ∀ t ci, ok t ci = true → ∃ q, cl[ci]? = some q ∧ tys[t]? = some (cA t, .object q.1)) (hd : decode cc pc = .ok (.aastore, 1)) (hi : sm_aast (pc + 1) L S h ok = some r) (k : sm_W p l e R s m args below meth c Q D cl A H0 nL cA b ad0 n0 C1 S1 r.1 r.2.1 r.2.2.1 r.2.2.2) : sm_W p l e R s m args below meth c Q D cl A H0 nL cA b ad0 n0 C1 S1 pc L S h := by
  unfold sm_aast at hi
  split at hi
  · next z i q rest =>
    split at hi
    · next t rs ci fs hz hv =>
      split at hi
      · next hc =>
        cases hi
        obtain ⟨r0, hr0, ht⟩ := hok t ci hc.2.2
        intro ad H locs ls e1 hP hD hS hl
        refine va_astq hx hb hK hP hD hS q t z ci (sm_w_get hz) ht (sm_w_get hv) hr0 (sm_inI hc.1 hc.2.1) hd (fun H1 locs1 hP1 hD1 hS1 => ?_)
        have ew := sm_w_shp (cA := cA) (ad := ad) (sh := h.1) (M := h.2.1) (J := h.2.2.1) (r := h.2.2.2) (r' := h.2.2.2) (k := q) (z' := .inr (.inr (.inr (t, rs.set i.toNatClampNeg (some z)))))
        have e2 : (fun j => (((rs.set i.toNatClampNeg (some z))[j]?).join).map ad) = va_up (fun j => (rs[j]?.join).map ad) i.toNatClampNeg (some (ad z)) := by
          funext j
          have hl9 : i.toNatClampNeg < rs.length := by
            have h8 : i.toNatClampNeg = i.toInt.toNat := rfl
            omega
          by_cases hj : j = i.toNatClampNeg
          · subst hj
            rw [List.getElem?_set_self hl9]
            simp [va_up]
          · rw [List.getElem?_set_ne (Ne.symm hj)]
            simp [va_up, hj]
        simp only [sm_e, e2, List.length_set] at ew
        exact k ad H1 locs1 ls (fun k9 h9 => e1 k9 (by simpa using h9)) (by show va_P D cl (sm_w cA ad (h.1.set q (.inr (.inr (.inr (t, rs.set i.toNatClampNeg (some z))))), h.2.1, h.2.2.1, h.2.2.2)) H1; rw [ew]; exact hP1) (by show va_D A (sm_w cA ad (h.1.set q (.inr (.inr (.inr (t, rs.set i.toNatClampNeg (some z))))), h.2.1, h.2.2.1, h.2.2.2)); rw [ew]; exact hD1) hS1 hl
      · cases hi
    · cases hi
  · cases hi
end SMF
end
section
/-! ===== new cells ===== -/
theorem sm_v_ext {b n : Nat} {ad ad' : Nat → Nat} {v : Value} (hw : sm_wfv n v = true) (ha : ∀ k, k < n → ad' k = ad k) : sm_v b ad' v = sm_v b ad v := by
  cases v with
  | ref k => exact congrArg Value.ref (ha k (by simpa [sm_wfv] using hw))
  | _ => rfl
theorem sm_S_ext {b n : Nat} {ad ad' : Nat → Nat} {S : List Value} (hw : S.all (sm_wfv n) = true) (ha : ∀ k, k < n → ad' k = ad k) : S.map (sm_v b ad') = S.map (sm_v b ad) :=
  List.map_congr_left fun v hv => sm_v_ext (List.all_eq_true.mp hw v hv) ha
theorem sm_l_ext {b n nL : Nat} {ad ad' : Nat → Nat} {ls : Array Slot} {L : sm_L} (h : sm_l b ad ls nL L) (hw : L.all (fun o => match o with
  | some v => sm_wfv n v
  | none => true) = true) (ha : ∀ k, k < n → ad' k = ad k) : sm_l b ad' ls nL L := by
  refine ⟨h.1, h.2.1, h.2.2.1, fun i v hv => ?_⟩
  have h1 : sm_wfv n v = true := List.all_eq_true.mp hw (some v) (List.mem_of_getElem? hv)
  rw [sm_v_ext h1 ha]
  exact h.2.2.2 i v hv
theorem sm_r_ext {n : Nat} {ad ad' : Nat → Nat} {r : Option Nat} (hw : sm_wfr n r = true) (ha : ∀ k, k < n → ad' k = ad k) : r.map ad' = r.map ad := by
  cases r with
  | none => rfl
  | some k => exact congrArg some (ha k (by simpa [sm_wfr] using hw))
theorem sm_e_ext {n k : Nat} {cA : Nat → ClassId} {ad ad' : Nat → Nat} {M M' : sm_M} {J J' : sm_J} {z : sm_S} (hw : sm_wfs n z = true) (ha : ∀ k, k < n → ad' k = ad k) (hM : M' k = M k) (hJ : J' k = J k) : sm_e cA ad' M' J' k z = sm_e cA ad M J k z := by
  match z with
  | .inl (ci, fs) =>
    simp only [sm_e, hM]
    congr 2
    apply List.ext_getElem?
    intro i
    rw [List.getElem?_mapIdx, List.getElem?_mapIdx]
    cases hf : fs[i]? with
    | none => rfl
    | some f =>
      have h1 := List.all_eq_true.mp hw f (List.mem_of_getElem? hf)
      match f with
      | none => rfl
      | some none => rfl
      | some (some q) =>
        have h2 : q < n := by simpa [sm_wfr] using h1
        show some (Value.ref (ad' q)) = some (Value.ref (ad q))
        rw [ha q h2]
  | .inr (.inl (t, n)) => simp only [sm_e, hM]
  | .inr (.inr (.inl n)) => simp only [sm_e, hJ]
  | .inr (.inr (.inr (t, rs))) =>
    have e9 : (fun i : Nat => (rs[i]?.join).map ad') = (fun i : Nat => (rs[i]?.join).map ad) := by
      funext i
      cases hf : rs[i]? with
      | none => rfl
      | some f => exact sm_r_ext (List.all_eq_true.mp hw f (List.mem_of_getElem? hf)) ha
    simp only [sm_e, e9]
theorem sm_w_push {cA : Nat → ClassId} {ad ad' : Nat → Nat} {sh : List sm_S} {M M' : sm_M} {J J' : sm_J} {r r' : Nat × Nat} {z : sm_S} (hw : sh.all (sm_wfs sh.length) = true) (ha : ∀ k, k < sh.length → ad' k = ad k) (hM : ∀ k, k < sh.length → M' k = M k) (hJ : ∀ k, k < sh.length → J' k = J k) :
    sm_w cA ad' (sh ++ [z], M', J', r') = sm_w cA ad (sh, M, J, r) ++ [(ad' sh.length, sm_e cA ad' M' J' sh.length z)] := by
  apply List.ext_getElem?
  intro j
  have hl : (sm_w cA ad (sh, M, J, r)).length = sh.length := by unfold sm_w; rw [List.length_mapIdx]
  by_cases hj : j < sh.length
  · rw [List.getElem?_append_left (by rw [hl]; exact hj)]
    unfold sm_w
    rw [List.getElem?_mapIdx, List.getElem?_mapIdx]
    show Option.map _ (sh ++ [z])[j]? = Option.map _ sh[j]?
    rw [List.getElem?_append_left hj]
    cases hz : sh[j]? with
    | none => rfl
    | some z' =>
      show some (ad' j, sm_e cA ad' M' J' j z') = some (ad j, sm_e cA ad M J j z')
      rw [ha j hj, sm_e_ext (List.all_eq_true.mp hw z' (List.mem_of_getElem? hz)) ha (hM j hj) (hJ j hj)]
  · by_cases hj2 : j = sh.length
    · subst hj2
      rw [List.getElem?_append_right (by rw [hl]; exact Nat.le_refl _), hl, Nat.sub_self]
      unfold sm_w
      rw [List.getElem?_mapIdx]
      show Option.map _ (sh ++ [z])[sh.length]? = _
      rw [List.getElem?_append_right (Nat.le_refl _), Nat.sub_self]
      rfl
    · have h1 : (sm_w cA ad (sh, M, J, r) ++ [(ad' sh.length, sm_e cA ad' M' J' sh.length z)])[j]? = none := List.getElem?_eq_none (by rw [List.length_append, hl]; simp; omega)
      have h2 : (sm_w cA ad' (sh ++ [z], M', J', r'))[j]? = none := List.getElem?_eq_none (by
        unfold sm_w
        rw [List.length_mapIdx]
        simp
        omega)
      rw [h1, h2]
theorem sm_RA_eq {U : State} {c1 c2 : ClassId} {ty : FieldType} (h1 : va_RA U c1 ty) (h2 : va_RA U c2 ty) : c1 = c2 := by
  cases ty with
  | object C =>
    obtain ⟨_, _, -, -, -, a⟩ := h1
    obtain ⟨_, _, -, -, -, b⟩ := h2
    exact Option.some.inj (a.symm.trans b)
  | _ => exact Option.some.inj (h1.symm.trans h2)
section SMN
variable {p : Program} {l : Launch} {e : Env} {R : Room} {s : State} {m : MethodId} {args : Array Value} {below : List Frame} {meth : Method} {c : Code} {Q : State → Prop} {cc : ByteArray} {D : va_G} {cl : List vw_C} {tys : List (ClassId × FieldType)} {A : Nat → Prop} {H0 : Heap} {nL : Nat} {cA : Nat → ClassId} {b : Nat} {ad0 : Nat → Nat} {n0 C1 S1 : Nat} {pc : Nat} {L : sm_L} {S : List Value} {h : sm_H} {r : sm_P} {WA NW : List Cond} {own : String} {idx : Nat}
theorem sm_s_mk {rest : List Value} {z : sm_S} {n pc2 : Nat} (hn0 : n0 ≤ h.1.length) (hle : h.2.2.2.1 ≤ C1 ∧ h.2.2.2.2 ≤ S1) (hroom : C1 - r.2.2.2.2.2.2.1 ≤ R.cells ∧ S1 - r.2.2.2.2.2.2.2 ≤ R.slots) (hi : sm_mk pc2 L rest h z n = some r) (k : sm_W p l e R s m args below meth c Q D cl A H0 nL cA b ad0 n0 C1 S1 r.1 r.2.1 r.2.2.1 r.2.2.2) :
    (C1 - h.2.2.2.1 + 1 ≤ R.cells ∧ S1 - h.2.2.2.2 + n ≤ R.slots) ∧ ∀ (ad : Nat → Nat) (H1 : Heap) (locs : List Loc) (ls : Array Slot) (q : Nat) (E : va_E), (∀ k, ¬ (n0 ≤ k ∧ k < h.1.length) → ad k = ad0 k) → sm_l b ad ls nL L → va_P D cl (sm_w cA ad h ++ [(q, E)]) H1 → va_D A (sm_w cA ad h ++ [(q, E)]) → va_S A H0 H1 locs →
      E = sm_e cA (fun j => if j = h.1.length then q else ad j) (sm_uf h.2.1 h.1.length (fun _ => 0)) (fun a => if a = h.1.length then (fun _ => 0) else h.2.2.1 a) h.1.length z →
      W p l e R s m args below meth c H1 locs (C1 - h.2.2.2.1 + 1) (S1 - h.2.2.2.2 + n) Q (F0 m pc2 ls (.ref q :: rest.map (sm_v b ad))) := by
  unfold sm_mk at hi
  split at hi
  · next hc =>
    obtain ⟨h1, h2, h3, h4, h5⟩ := hc
    cases hi
    have g1 : C1 - (h.2.2.2.1 - 1) = C1 - h.2.2.2.1 + 1 := by omega
    have g2 : S1 - (h.2.2.2.2 - n) = S1 - h.2.2.2.2 + n := by omega
    dsimp only at hroom k
    rw [g1, g2] at hroom
    refine ⟨hroom, fun ad H1 locs ls q E e1 hl hP hD hS hE => ?_⟩
    have ha : ∀ j, j < h.1.length → (fun j => if j = h.1.length then q else ad j) j = ad j := fun j hj => if_neg (by omega)
    have hw : sm_wfL h.1.length L rest = true := h3
    unfold sm_wfL at hw
    rw [Bool.and_eq_true] at hw
    have ew := sm_w_push (cA := cA) (ad := ad) (ad' := fun j => if j = h.1.length then q else ad j) (sh := h.1) (M := h.2.1) (M' := sm_uf h.2.1 h.1.length (fun _ => 0)) (J := h.2.2.1) (J' := fun a => if a = h.1.length then (fun _ => 0) else h.2.2.1 a) (r := h.2.2.2) (r' := (h.2.2.2.1 - 1, h.2.2.2.2 - n)) (z := z) h4 ha (fun j hj => sm_uf_ne j (by omega)) (fun j hj => if_neg (by omega))
    rw [← hE] at ew
    have ew : sm_w cA (fun j => if j = h.1.length then q else ad j) (h.1 ++ [z], sm_uf h.2.1 h.1.length (fun _ => 0), (fun a => if a = h.1.length then (fun _ => 0) else h.2.2.1 a), h.2.2.2.1 - 1, h.2.2.2.2 - n) = sm_w cA ad h ++ [(q, E)] := by
      rw [ew]
      simp
    have kk := k (fun j => if j = h.1.length then q else ad j) H1 locs ls (fun j hj => by
      have hl9 : (h.1 ++ [z]).length = h.1.length + 1 := by simp
      rw [hl9] at hj
      show (if j = h.1.length then q else ad j) = ad0 j
      rw [if_neg (by omega)]
      exact e1 j (by omega)) (by rw [ew]; exact hP) (by rw [ew]; exact hD) hS (sm_l_ext hl hw.1 ha)
    dsimp only at kk
    rw [g1, g2] at kk
    have es : List.map (sm_v b (fun j => if j = h.1.length then q else ad j)) (Value.ref h.1.length :: rest) = .ref q :: rest.map (sm_v b ad) := by
      rw [List.map_cons, sm_S_ext hw.2 ha]
      simp [sm_v]
    rw [es] at kk
    exact kk
  · cases hi
theorem sm_s_newarray (hx : p.tables.exec = Jvm.exec) (hb : c.code = cc) (hK : va_K D cl tys s) (hA : ∀ q, H0.size ≤ q → A q) (hn0 : n0 ≤ h.1.length) (hle : h.2.2.2.1 ≤ C1 ∧ h.2.2.2.2 ≤ S1) (hroom : C1 - r.2.2.2.2.2.2.1 ≤ R.cells ∧ S1 - r.2.2.2.2.2.2.2 ≤ R.slots) (t0 : tys[0]? = some (cA 0, .int)) (t1 : tys[1]? = some (cA 1, .boolean)) (t2 : tys[2]? = some (cA 2, .long)) (ha0 : (Cond.arrayClass .int).before args s = true) (ha1 : (Cond.arrayClass .boolean).before args s = true) (ha2 : (Cond.arrayClass .long).before args s = true) {t : ArrayType} (hd : decode cc pc = .ok (.newarray t, 2)) (hi : sm_newa (pc + 2) L S h t = some r) (k : sm_W p l e R s m args below meth c Q D cl A H0 nL cA b ad0 n0 C1 S1 r.1 r.2.1 r.2.2.1 r.2.2.2) : sm_W p l e R s m args below meth c Q D cl A H0 nL cA b ad0 n0 C1 S1 pc L S h := by
  unfold sm_newa at hi
  split at hi
  · next n rest =>
    split at hi
    · next hc =>
      have hn : ¬ n < 0 := by
        rw [Int32.lt_iff_toInt_lt]
        have : (0 : Int32).toInt = 0 := by decide
        omega
      have hN : n.toNatClampNeg = n.toInt.toNat := rfl
      split at hi
      · obtain ⟨hr2, go⟩ := sm_s_mk hn0 hle hroom hi k
        intro ad H locs ls e1 hP hD hS hl
        refine va_newa hx hb (atype := .int) ha0 (ty := .int) rfl hK hP hD hS hA (a0 := (n.toNatClampNeg, .inl (fun _ => 0))) (fun _ => rfl) hn rfl (by show n.toNatClampNeg * _ ≤ _; rw [hN]; simp only [componentBytes]; omega) hr2.1 hr2.2 hd (fun q cB H1 hK1 hP1 hD1 hS1 => ?_)
        have hcc : cB = cA 0 := sm_RA_eq (hK1.2 tys.length (cB, .int) (by simp)).2 (hK1.2 0 (cA 0, .int) (by rw [List.getElem?_append_left (List.getElem?_eq_some_iff.mp t0).1]; exact t0)).2
        subst hcc
        exact go ad H1 locs ls q _ e1 hl hP1 hD1 hS1 (by simp [sm_e, sm_uf])
      · obtain ⟨hr2, go⟩ := sm_s_mk hn0 hle hroom hi k
        intro ad H locs ls e1 hP hD hS hl
        refine va_newa hx hb (atype := .boolean) ha1 (ty := .boolean) rfl hK hP hD hS hA (a0 := (n.toNatClampNeg, .inl (fun _ => 0))) (fun _ => rfl) hn rfl (by show n.toNatClampNeg * _ ≤ _; rw [hN]; simp only [componentBytes]; omega) hr2.1 hr2.2 hd (fun q cB H1 hK1 hP1 hD1 hS1 => ?_)
        have hcc : cB = cA 1 := sm_RA_eq (hK1.2 tys.length (cB, .boolean) (by simp)).2 (hK1.2 1 (cA 1, .boolean) (by rw [List.getElem?_append_left (List.getElem?_eq_some_iff.mp t1).1]; exact t1)).2
        subst hcc
        exact go ad H1 locs ls q _ e1 hl hP1 hD1 hS1 (by simp [sm_e, sm_uf])
      · obtain ⟨hr2, go⟩ := sm_s_mk hn0 hle hroom hi k
        intro ad H locs ls e1 hP hD hS hl
        refine va_newa hx hb (atype := .long) ha2 (ty := .long) rfl hK hP hD hS hA (a0 := (n.toNatClampNeg, .inr (.inl (fun _ => 0)))) (fun _ => rfl) hn rfl (by show n.toNatClampNeg * _ ≤ _; rw [hN]; simp only [componentBytes]; omega) hr2.1 hr2.2 hd (fun q cB H1 hK1 hP1 hD1 hS1 => ?_)
        have hcc : cB = cA 2 := sm_RA_eq (hK1.2 tys.length (cB, .long) (by simp)).2 (hK1.2 2 (cA 2, .long) (by rw [List.getElem?_append_left (List.getElem?_eq_some_iff.mp t2).1]; exact t2)).2
        subst hcc
        exact go ad H1 locs ls q _ e1 hl hP1 hD1 hS1 (by simp [sm_e, sm_uf])
      · cases hi
    · cases hi
  · cases hi
theorem sm_s_anewarray (hx : p.tables.exec = Jvm.exec) (hb : c.code = cc) (hK : va_K D cl tys s) (hA : ∀ q, H0.size ≤ q → A q) (hn0 : n0 ≤ h.1.length) (hle : h.2.2.2.1 ≤ C1 ∧ h.2.2.2.2 ≤ S1) (hroom : C1 - r.2.2.2.2.2.2.1 ≤ R.cells ∧ S1 - r.2.2.2.2.2.2.2 ≤ R.slots) (hown : s.vm.findClass own = some m.cls) {t : Option Nat} (hq : ∀ u, t = some u → ∃ C, tys[u]? = some (cA u, .object C) ∧ (Cond.classLink own idx C).before args s = true ∧ va_AO C s) (hd : decode cc pc = .ok (.anewarray idx, 3)) (hi : sm_newq (pc + 3) L S h t = some r) (k : sm_W p l e R s m args below meth c Q D cl A H0 nL cA b ad0 n0 C1 S1 r.1 r.2.1 r.2.2.1 r.2.2.2) : sm_W p l e R s m args below meth c Q D cl A H0 nL cA b ad0 n0 C1 S1 pc L S h := by
  unfold sm_newq at hi
  split at hi
  · next u n rest =>
    obtain ⟨C, tu, hcl, hao⟩ := hq u rfl
    split at hi
    · next hc =>
      have hn : ¬ n < 0 := by
        rw [Int32.lt_iff_toInt_lt]
        have : (0 : Int32).toInt = 0 := by decide
        omega
      have hN : n.toNatClampNeg = n.toInt.toNat := rfl
      obtain ⟨hr2, go⟩ := sm_s_mk hn0 hle hroom hi k
      intro ad H locs ls e1 hP hD hS hl
      refine va_newq hx hb hown hcl hao hK hP hD hS hA hn rfl (by rw [hN]; omega) hr2.1 hr2.2 hd (fun q cB H1 hK1 hP1 hD1 hS1 => ?_)
      have hcc : cB = cA u := sm_RA_eq (hK1.2 tys.length (cB, .object C) (by simp)).2 (hK1.2 u (cA u, .object C) (by rw [List.getElem?_append_left (List.getElem?_eq_some_iff.mp tu).1]; exact tu)).2
      subst hcc
      refine go ad H1 locs ls q _ e1 hl hP1 hD1 hS1 ?_
      have e9 : (fun i : Nat => ((List.replicate n.toNatClampNeg (none : Option Nat))[i]?.join).map (fun j => if j = h.1.length then q else ad j)) = (fun _ => none) := by
        funext i
        by_cases hi9 : i < n.toNatClampNeg
        · simp [List.getElem?_replicate, hi9]
        · simp [List.getElem?_replicate, hi9]
      simp only [sm_e, List.length_replicate, e9]
    · cases hi
  · cases hi
/-- a class that is made: its fields at their defaults -/
def sm_No (cl : List vw_C) (WA : List Cond) (own : String) (idx ci : Nat) (fs : List (Option (Option Nat))) : Prop := ∃ (C : String) (T : u_T) (ty : Nat → FieldType),
  cl[ci]? = some (C, T, fs.length) ∧ (∀ w ∈ u_ws C T fs.length, w ∈ WA) ∧ (∀ k, k < fs.length → parseFieldDescriptor (T k).2.2.1 = some (ty k)) ∧ Cond.classLink own idx C ∈ WA ∧ Cond.instantiable C fs.length ∈ WA ∧ Cond.initialized C ∈ WA ∧
  (∀ k, k < fs.length → (fs[k]? = some none ∧ defaultValue (ty k) = .int 0) ∨ (fs[k]? = some (some none) ∧ defaultValue (ty k) = .null))
theorem sm_s_new (hx : p.tables.exec = Jvm.exec) (hb : c.code = cc) (hK : va_K D cl tys s) (hA : ∀ q, H0.size ≤ q → A q) (hn0 : n0 ≤ h.1.length) (hle : h.2.2.2.1 ≤ C1 ∧ h.2.2.2.2 ≤ S1) (hroom : C1 - r.2.2.2.2.2.2.1 ≤ R.cells ∧ S1 - r.2.2.2.2.2.2.2 ≤ R.slots) (hown : s.vm.findClass own = some m.cls) (hts : ∀ w ∈ WA, w.before args s = true) {f : Option (Nat × List (Option (Option Nat)))} (hf : ∀ ci fs, f = some (ci, fs) → sm_No cl WA own idx ci fs) (hd : decode cc pc = .ok (.new idx, 3)) (hi : sm_new (pc + 3) L S h f = some r) (k : sm_W p l e R s m args below meth c Q D cl A H0 nL cA b ad0 n0 C1 S1 r.1 r.2.1 r.2.2.1 r.2.2.2) : sm_W p l e R s m args below meth c Q D cl A H0 nL cA b ad0 n0 C1 S1 pc L S h := by
  unfold sm_new at hi
  split at hi
  · next ci fs =>
    obtain ⟨C, T, ty, hc, hin, hty, w1, w2, w3, hdef⟩ := hf ci fs rfl
    obtain ⟨hr2, go⟩ := sm_s_mk hn0 hle hroom hi k
    intro ad H locs ls e1 hP hD hS hl
    refine va_new hx hb hts hin ty hty hown (hts _ w1) (hts _ w2) (hts _ w3) hK hP hD hS hA hc (fs := fs.mapIdx (sm_f (fun _ => 0) (fun _ => 0))) ?_ hr2.1 hr2.2 hd (fun q H1 hP1 hD1 hS1 => ?_)
    · intro j hj
      show _ = (fs.mapIdx (sm_f (fun _ => 0) (fun _ => 0))).getD j Value.null
      rw [List.getD_eq_getElem?_getD, List.getElem?_mapIdx]
      rcases hdef j hj with ⟨a1, a2⟩ | ⟨a1, a2⟩
      · rw [a1, a2]; rfl
      · rw [a1, a2]; rfl
    · refine go ad H1 locs ls q _ e1 hl hP1 hD1 hS1 ?_
      simp only [sm_e, sm_uf_eq]
      congr 2
      apply List.ext_getElem?
      intro i
      rw [List.getElem?_mapIdx, List.getElem?_mapIdx]
      by_cases hil : i < fs.length
      · rcases hdef i hil with ⟨a1, -⟩ | ⟨a1, -⟩
        · rw [a1]; rfl
        · rw [a1]; rfl
      · rw [List.getElem?_eq_none (by omega)]
        rfl
  · cases hi
end SMN
end
section
/-! ===== any instruction that neither calls nor leaves ===== -/
def sm_tsw : Instr → Bool
  | .tableswitch _ _ _ _ => true
  | _ => false
/-- stores are to locals that there are -/
def sm_lok (n : Nat) : Instr → Bool
  | .istore i => decide (i < n)
  | .istore_n i => decide (i.val < n)
  | .astore i => decide (i < n)
  | .astore_n i => decide (i.val < n)
  | .iinc i _ => decide (i < n)
  | _ => true
def sm_isput : Instr → Option Nat
  | .putfield k => some k
  | _ => none
/-- what the class files' tables T say is so; by is a method's code, nm its name, tyN the types of arrays, AO the classes of arrays of references -/
def sm_Tab (T : sm_T) (ok : Nat → Nat → Bool) (cl : List vw_C) (WA NW : List Cond) (tyN : List FieldType) (AO : List String) (bc : Nat → ByteArray) (nm : Nat → MethodName) : Prop :=
  (∀ y idx ci j k, sm_fld T y idx = some (ci, j, k) → sm_Fo cl WA NW (nm y).cls idx ci j k) ∧
  (∀ y pc i idx ci j k, sm_ins T y pc = some i → sm_isput i = some idx → sm_fld T y idx = some (ci, j, k) → sm_Fp cl WA (nm y).cls idx ((nm y).name == "<init>") ci j) ∧
  (∀ y idx ci fs, sm_cls T y idx = some (ci, fs) → sm_No cl WA (nm y).cls idx ci fs) ∧
  (∀ y idx u, sm_arr T y idx = some u → ∃ C, tyN[u]? = some (.object C) ∧ Cond.classLink (nm y).cls idx C ∈ WA ∧ C ∈ AO) ∧
  (∀ y pc i, sm_ins T y pc = some i → ∃ len, decode (bc y) pc = .ok (i, len) ∧ (sm_tsw i = false → len = sm_len i) ∧ sm_lok (sm_nL T y).1 i = true) ∧
  (∀ t ci, ok t ci = true → ∃ q, cl[ci]? = some q ∧ tyN[t]? = some (.object q.1)) ∧
  (∃ t3 t4 t5, tyN = [.int, .boolean, .long, .object t3, .object t4, .object t5]) ∧
  Cond.arrayClass .int ∈ WA ∧ Cond.arrayClass .boolean ∈ WA ∧ Cond.arrayClass .long ∈ WA
def sm_tys (cA : Nat → ClassId) (tyN : List FieldType) : List (ClassId × FieldType) := tyN.mapIdx (fun t ty => (cA t, ty))
theorem sm_tys_get {cA : Nat → ClassId} {tyN : List FieldType} {t : Nat} {ty : FieldType} (h : tyN[t]? = some ty) : (sm_tys cA tyN)[t]? = some (cA t, ty) := by
  unfold sm_tys
  rw [List.getElem?_mapIdx, h]
  rfl
section SMX
variable {p : Program} {l : Launch} {e : Env} {R : Room} {s : State} {m : MethodId} {args : Array Value} {below : List Frame} {meth : Method} {c : Code} {Q : State → Prop} {D : va_G} {cl : List vw_C} {A : Nat → Prop} {H0 : Heap} {nL : Nat} {cA : Nat → ClassId} {b : Nat} {ad0 : Nat → Nat} {n0 C1 S1 : Nat} {pc : Nat} {L : sm_L} {S : List Value} {h : sm_H} {r : sm_P} {WA NW : List Cond} {T : sm_T} {ok : Nat → Nat → Bool} {tyN : List FieldType} {AO : List String} {bc : Nat → ByteArray} {nm : Nat → MethodName} {X : Nat × (Nat → Int32)} {y : Nat}
set_option maxHeartbeats 4000000 in
theorem sm_sound (TB : sm_Tab T ok cl WA NW tyN AO bc nm) (hx : p.tables.exec = Jvm.exec) (hb : c.code = bc y) (hnL : (sm_nL T y).1 = nL) (hown : s.vm.findClass (nm y).cls = some m.cls) (hmn : meth.name = (nm y).name) (hts : ∀ w ∈ WA, w.before args s = true) (hN : ∀ w ∈ NW, va_Nw w s) (hAO : ∀ C ∈ AO, va_AO C s) (hK : va_K D cl (sm_tys cA tyN) s) (hX : va_X b X.1 X.2 s H0) (hbl : b < H0.size) (hbA : ¬ A b) (hA : ∀ q, H0.size ≤ q → A q) (hn0 : n0 ≤ h.1.length) (hle : h.2.2.2.1 ≤ C1 ∧ h.2.2.2.2 ≤ S1) (hroom : C1 - r.2.2.2.2.2.2.1 ≤ R.cells ∧ S1 - r.2.2.2.2.2.2.2 ≤ R.slots)
    {i : Instr} (hins : sm_ins T y pc = some i) (hi : sm_i T X ok y i pc L S h = some r) (k : sm_W p l e R s m args below meth c Q D cl A H0 nL cA b ad0 n0 C1 S1 r.1 r.2.1 r.2.2.1 r.2.2.2) : sm_W p l e R s m args below meth c Q D cl A H0 nL cA b ad0 n0 C1 S1 pc L S h := by
  obtain ⟨tF, tP, tN, tQ, tI, tO, ⟨t3, t4, t5, rfl⟩, tw0, tw1, tw2⟩ := TB
  obtain ⟨len, hd, hlen, hlo⟩ := tI y pc i hins
  have e0 := sm_tys_get (cA := cA) (tyN := [.int, .boolean, .long, .object t3, .object t4, .object t5]) (t := 0) rfl
  have e1 := sm_tys_get (cA := cA) (tyN := [.int, .boolean, .long, .object t3, .object t4, .object t5]) (t := 1) rfl
  have e2 := sm_tys_get (cA := cA) (tyN := [.int, .boolean, .long, .object t3, .object t4, .object t5]) (t := 2) rfl
  have e6 : ∀ t, t < 6 → ∃ ty, (sm_tys cA [.int, .boolean, .long, .object t3, .object t4, .object t5])[t]? = some (cA t, ty) := by
    intro t ht
    have : ∃ ty, ([.int, .boolean, .long, .object t3, .object t4, .object t5] : List FieldType)[t]? = some ty := ⟨_, List.getElem?_eq_getElem (by simpa using ht)⟩
    obtain ⟨ty, h9⟩ := this
    exact ⟨ty, sm_tys_get h9⟩
  have e7 : ∀ t ty, 3 ≤ t → t < 6 → (sm_tys cA [.int, .boolean, .long, .object t3, .object t4, .object t5])[t]? = some (cA t, ty) → ∃ C, ty = .object C := by
    intro t ty h3 h6 h9
    rcases (by omega : t = 3 ∨ t = 4 ∨ t = 5) with rfl | rfl | rfl
    · cases h9; exact ⟨_, rfl⟩
    · cases h9; exact ⟨_, rfl⟩
    · cases h9; exact ⟨_, rfl⟩
  rw [hnL] at hlo
  cases i with
  | iconst n =>
    obtain rfl := hlen rfl
    exact sm_s_iconst hx hb hd hi k
  | bipush n =>
    obtain rfl := hlen rfl
    exact sm_s_bipush hx hb hd hi k
  | sipush n =>
    obtain rfl := hlen rfl
    exact sm_s_sipush hx hb hd hi k
  | lconst n =>
    obtain rfl := hlen rfl
    exact sm_s_lconst hx hb hd hi k
  | iload i =>
    obtain rfl := hlen rfl
    exact sm_s_iload hx hb hd hi k
  | iload_n i =>
    obtain rfl := hlen rfl
    exact sm_s_iload_n hx hb hd hi k
  | aload i =>
    obtain rfl := hlen rfl
    exact sm_s_aload hx hb hd hi k
  | aload_n i =>
    obtain rfl := hlen rfl
    exact sm_s_aload_n hx hb hd hi k
  | istore i =>
    obtain rfl := hlen rfl
    exact sm_s_istore hx hb (of_decide_eq_true hlo) hd hi k
  | istore_n i =>
    obtain rfl := hlen rfl
    exact sm_s_istore_n hx hb (of_decide_eq_true hlo) hd hi k
  | astore i =>
    obtain rfl := hlen rfl
    exact sm_s_astore hx hb (of_decide_eq_true hlo) hd hi k
  | astore_n i =>
    obtain rfl := hlen rfl
    exact sm_s_astore_n hx hb (of_decide_eq_true hlo) hd hi k
  | iinc i n =>
    obtain rfl := hlen rfl
    exact sm_s_iinc hx hb (of_decide_eq_true hlo) hd hi k
  | iadd =>
    obtain rfl := hlen rfl
    exact sm_s_iadd hx hb hd hi k
  | isub =>
    obtain rfl := hlen rfl
    exact sm_s_isub hx hb hd hi k
  | imul =>
    obtain rfl := hlen rfl
    exact sm_s_imul hx hb hd hi k
  | iand =>
    obtain rfl := hlen rfl
    exact sm_s_iand hx hb hd hi k
  | ior =>
    obtain rfl := hlen rfl
    exact sm_s_ior hx hb hd hi k
  | ixor =>
    obtain rfl := hlen rfl
    exact sm_s_ixor hx hb hd hi k
  | ishl =>
    obtain rfl := hlen rfl
    exact sm_s_ishl hx hb hd hi k
  | ishr =>
    obtain rfl := hlen rfl
    exact sm_s_ishr hx hb hd hi k
  | pop =>
    obtain rfl := hlen rfl
    exact sm_s_pop hx hb hd hi k
  | dup =>
    obtain rfl := hlen rfl
    exact sm_s_dup hx hb hd hi k
  | dup_x1 =>
    obtain rfl := hlen rfl
    exact sm_s_dup_x1 hx hb hd hi k
  | dup_x2 =>
    obtain rfl := hlen rfl
    exact sm_s_dup_x2 hx hb hd hi k
  | dup2 =>
    obtain rfl := hlen rfl
    exact sm_s_dup2 hx hb hd hi k
  | i2l =>
    obtain rfl := hlen rfl
    exact sm_s_i2l hx hb hd hi k
  | lcmp =>
    obtain rfl := hlen rfl
    exact sm_s_lcmp hx hb hd hi k
  | ifCond q off =>
    obtain rfl := hlen rfl
    exact sm_s_if hx hb hd hi k
  | if_icmp q off =>
    obtain rfl := hlen rfl
    exact sm_s_icmp hx hb hd hi k
  | goto off =>
    obtain rfl := hlen rfl
    exact sm_s_goto hx hb hd hi k
  | tableswitch d lo hi9 offs =>
    exact sm_s_table hx hb hd hi k
  | getfield j =>
    obtain rfl := hlen rfl
    exact sm_s_get hx hb hown hts hN hK (fun ci q bl h9 => tF y j ci q bl h9) hd hi k
  | putfield j =>
    obtain rfl := hlen rfl
    exact sm_s_put hx hb hown hts hN hK (ini := ((nm y).name == "<init>")) (fun h9 => by rw [hmn]; exact eq_of_beq h9) (fun ci q bl h9 => tF y j ci q bl h9) (fun ci q bl h9 => tP y pc _ j ci q bl hins rfl h9) hd hi k
  | iaload =>
    obtain rfl := hlen rfl
    exact sm_s_iaload hx hb hK e0 hX hbl hbA hd hi k
  | baload =>
    obtain rfl := hlen rfl
    exact sm_s_baload hx hb hK e1 hX hbl hbA hd hi k
  | iastore =>
    obtain rfl := hlen rfl
    exact sm_s_iastore hx hb hK e0 hd hi k
  | bastore =>
    obtain rfl := hlen rfl
    exact sm_s_bastore hx hb hK e1 hd hi k
  | laload =>
    obtain rfl := hlen rfl
    exact sm_s_laload hx hb hK e2 hd hi k
  | lastore =>
    obtain rfl := hlen rfl
    exact sm_s_lastore hx hb hK e2 hd hi k
  | aaload =>
    obtain rfl := hlen rfl
    exact sm_s_aaload hx hb hK e6 e7 hd hi k
  | aastore =>
    obtain rfl := hlen rfl
    exact sm_s_aastore hx hb hK (fun t ci h9 => by obtain ⟨q, h1, h2⟩ := tO t ci h9; exact ⟨q, h1, sm_tys_get h2⟩) hd hi k
  | arraylength =>
    obtain rfl := hlen rfl
    exact sm_s_alen hx hb hK e6 hX hbl hbA hd hi k
  | newarray t =>
    obtain rfl := hlen rfl
    exact sm_s_newarray hx hb hK hA hn0 hle hroom e0 e1 e2 (hts _ tw0) (hts _ tw1) (hts _ tw2) hd hi k
  | anewarray j =>
    obtain rfl := hlen rfl
    exact sm_s_anewarray hx hb hK hA hn0 hle hroom hown (fun u h9 => by obtain ⟨C, h1, h2, h3⟩ := tQ y j u h9; exact ⟨C, sm_tys_get h1, hts _ h2, hAO C h3⟩) hd hi k
  | new j =>
    obtain rfl := hlen rfl
    exact sm_s_new hx hb hK hA hn0 hle hroom hown hts (fun ci fs h9 => tN y j ci fs h9) hd hi k
  | _ => cases hi
end SMX
end
section
/-! ===== room falls, shapes grow ===== -/
def sm_ge (h : sm_H) (o : Option sm_P) : Prop := ∀ r, o = some r → r.2.2.2.2.2.2.1 ≤ h.2.2.2.1 ∧ r.2.2.2.2.2.2.2 ≤ h.2.2.2.2 ∧ h.1.length ≤ r.2.2.2.1.length
theorem sm_ge_none {h : sm_H} : sm_ge h none := fun _ h => by cases h
theorem sm_ge_same {h : sm_H} {pc : Nat} {L : sm_L} {S : List Value} : sm_ge h (some (pc, L, S, h)) := fun r hr => by cases hr; exact ⟨Nat.le_refl _, Nat.le_refl _, Nat.le_refl _⟩
theorem sm_ge_mem {h : sm_H} {pc : Nat} {L : sm_L} {S : List Value} {M : sm_M} {J : sm_J} : sm_ge h (some (pc, L, S, h.1, M, J, h.2.2.2)) := fun r hr => by cases hr; exact ⟨Nat.le_refl _, Nat.le_refl _, Nat.le_refl _⟩
theorem sm_ge_set {h : sm_H} {pc : Nat} {L : sm_L} {S : List Value} {q : Nat} {z : sm_S} : sm_ge h (some (pc, L, S, h.1.set q z, h.2)) := fun r hr => by cases hr; exact ⟨Nat.le_refl _, Nat.le_refl _, by simp⟩
theorem sm_ge_mk {pc : Nat} {L : sm_L} {S : List Value} {h : sm_H} {z : sm_S} {n : Nat} : sm_ge h (sm_mk pc L S h z n) := by
  intro r hr
  unfold sm_mk at hr
  split at hr
  · cases hr
    exact ⟨Nat.sub_le _ _, Nat.sub_le _ _, by simp⟩
  · cases hr
set_option maxHeartbeats 4000000 in
theorem sm_i_ge {T : sm_T} {X : Nat × (Nat → Int32)} {ok : Nat → Nat → Bool} {y : Nat} {i : Instr} {pc : Nat} {L : sm_L} {S : List Value} {h : sm_H} : sm_ge h (sm_i T X ok y i pc L S h) := by
  unfold sm_i
  split
  all_goals first
    | exact sm_ge_none
    | exact sm_ge_same
    | (unfold sm_jmp; (repeat' split); all_goals first | exact sm_ge_none | exact sm_ge_same | exact sm_ge_mem | exact sm_ge_set | exact sm_ge_mk)
    | (unfold sm_lint; (repeat' split); all_goals first | exact sm_ge_none | exact sm_ge_same | exact sm_ge_mem | exact sm_ge_set | exact sm_ge_mk)
    | (unfold sm_lref; (repeat' split); all_goals first | exact sm_ge_none | exact sm_ge_same | exact sm_ge_mem | exact sm_ge_set | exact sm_ge_mk)
    | (unfold sm_sint; (repeat' split); all_goals first | exact sm_ge_none | exact sm_ge_same | exact sm_ge_mem | exact sm_ge_set | exact sm_ge_mk)
    | (unfold sm_sref; (repeat' split); all_goals first | exact sm_ge_none | exact sm_ge_same | exact sm_ge_mem | exact sm_ge_set | exact sm_ge_mk)
    | (unfold sm_inc; (repeat' split); all_goals first | exact sm_ge_none | exact sm_ge_same | exact sm_ge_mem | exact sm_ge_set | exact sm_ge_mk)
    | (unfold sm_bin; (repeat' split); all_goals first | exact sm_ge_none | exact sm_ge_same | exact sm_ge_mem | exact sm_ge_set | exact sm_ge_mk)
    | (unfold sm_pop; (repeat' split); all_goals first | exact sm_ge_none | exact sm_ge_same | exact sm_ge_mem | exact sm_ge_set | exact sm_ge_mk)
    | (unfold sm_dup; (repeat' split); all_goals first | exact sm_ge_none | exact sm_ge_same | exact sm_ge_mem | exact sm_ge_set | exact sm_ge_mk)
    | (unfold sm_dup_x1; (repeat' split); all_goals first | exact sm_ge_none | exact sm_ge_same | exact sm_ge_mem | exact sm_ge_set | exact sm_ge_mk)
    | (unfold sm_dup_x2; (repeat' split); all_goals first | exact sm_ge_none | exact sm_ge_same | exact sm_ge_mem | exact sm_ge_set | exact sm_ge_mk)
    | (unfold sm_dup2; (repeat' split); all_goals first | exact sm_ge_none | exact sm_ge_same | exact sm_ge_mem | exact sm_ge_set | exact sm_ge_mk)
    | (unfold sm_i2l; (repeat' split); all_goals first | exact sm_ge_none | exact sm_ge_same | exact sm_ge_mem | exact sm_ge_set | exact sm_ge_mk)
    | (unfold sm_lcmp; (repeat' split); all_goals first | exact sm_ge_none | exact sm_ge_same | exact sm_ge_mem | exact sm_ge_set | exact sm_ge_mk)
    | (unfold sm_br; (repeat' split); all_goals first | exact sm_ge_none | exact sm_ge_same | exact sm_ge_mem | exact sm_ge_set | exact sm_ge_mk)
    | (unfold sm_br2; (repeat' split); all_goals first | exact sm_ge_none | exact sm_ge_same | exact sm_ge_mem | exact sm_ge_set | exact sm_ge_mk)
    | (unfold sm_tab sm_jmp; (repeat' split); all_goals first | exact sm_ge_none | exact sm_ge_same | exact sm_ge_mem | exact sm_ge_set | exact sm_ge_mk)
    | (unfold sm_get; (repeat' split); all_goals first | exact sm_ge_none | exact sm_ge_same | exact sm_ge_mem | exact sm_ge_set | exact sm_ge_mk)
    | (unfold sm_put; (repeat' split); all_goals first | exact sm_ge_none | exact sm_ge_same | exact sm_ge_mem | exact sm_ge_set | exact sm_ge_mk)
    | (unfold sm_ald; (repeat' split); all_goals first | exact sm_ge_none | exact sm_ge_same | exact sm_ge_mem | exact sm_ge_set | exact sm_ge_mk)
    | (unfold sm_ast; (repeat' split); all_goals first | exact sm_ge_none | exact sm_ge_same | exact sm_ge_mem | exact sm_ge_set | exact sm_ge_mk)
    | (unfold sm_lald; (repeat' split); all_goals first | exact sm_ge_none | exact sm_ge_same | exact sm_ge_mem | exact sm_ge_set | exact sm_ge_mk)
    | (unfold sm_last; (repeat' split); all_goals first | exact sm_ge_none | exact sm_ge_same | exact sm_ge_mem | exact sm_ge_set | exact sm_ge_mk)
    | (unfold sm_aald; (repeat' split); all_goals first | exact sm_ge_none | exact sm_ge_same | exact sm_ge_mem | exact sm_ge_set | exact sm_ge_mk)
    | (unfold sm_aast; (repeat' split); all_goals first | exact sm_ge_none | exact sm_ge_same | exact sm_ge_mem | exact sm_ge_set | exact sm_ge_mk)
    | (unfold sm_alen; (repeat' split); all_goals first | exact sm_ge_none | exact sm_ge_same | exact sm_ge_mem | exact sm_ge_set | exact sm_ge_mk)
    | (unfold sm_newa; (repeat' split); all_goals first | exact sm_ge_none | exact sm_ge_same | exact sm_ge_mem | exact sm_ge_set | exact sm_ge_mk)
    | (unfold sm_newq; (repeat' split); all_goals first | exact sm_ge_none | exact sm_ge_same | exact sm_ge_mem | exact sm_ge_set | exact sm_ge_mk)
    | (unfold sm_new; (repeat' split); all_goals first | exact sm_ge_none | exact sm_ge_same | exact sm_ge_mem | exact sm_ge_set | exact sm_ge_mk)
theorem sm_lib_ge {k pc : Nat} {L : sm_L} {S : List Value} {h : sm_H} : sm_ge h (sm_lib k pc L S h) := by
  unfold sm_lib
  (repeat' split)
  all_goals first | exact sm_ge_none | exact sm_ge_same | exact sm_ge_mem
theorem sm_or_inl {x : Option (Nat × Nat × Nat)} {d lw : Nat} {h : sm_H} {r : Option (sm_O × sm_H)} {v : Option Value} {h' : sm_H} (hr : sm_or x d lw h r = some (.inl v, h')) : x = none ∧ r = some (.inl v, h') := by
  unfold sm_or at hr
  split at hr
  · split at hr
    · cases hr
    · cases hr
  · exact ⟨rfl, hr⟩
theorem sm_or_ge {x : Option (Nat × Nat × Nat)} {d lw : Nat} {h : sm_H} {r : Option (sm_O × sm_H)} {q : sm_O × sm_H} (hr : sm_or x d lw h r = some q) (hg : r = some q → q.2.2.2.2.1 ≤ h.2.2.2.1 ∧ q.2.2.2.2.2 ≤ h.2.2.2.2 ∧ h.1.length ≤ q.2.1.length) : q.2.2.2.2.1 ≤ h.2.2.2.1 ∧ q.2.2.2.2.2 ≤ h.2.2.2.2 ∧ h.1.length ≤ q.2.1.length := by
  unfold sm_or at hr
  split at hr
  · split at hr
    · cases hr
      exact ⟨Nat.sub_le _ _, Nat.sub_le _ _, Nat.le_refl _⟩
    · cases hr
  · exact hg hr
set_option maxHeartbeats 4000000 in
theorem sm_run_ge {T : sm_T} {X : Nat × (Nat → Int32)} {ok : Nat → Nat → Bool} : ∀ (n d lw y pc : Nat) (L : sm_L) (S : List Value) (h : sm_H) (o : sm_O) (h' : sm_H), sm_run T X ok n d lw y pc L S h = some (o, h') → h'.2.2.2.1 ≤ h.2.2.2.1 ∧ h'.2.2.2.2 ≤ h.2.2.2.2 ∧ h.1.length ≤ h'.1.length := by
  intro n
  induction n with
  | zero => intro d lw y pc L S h o h' hr; cases hr
  | succ n ih =>
    intro d lw y pc L S h o h' hr
    unfold sm_run at hr
    split at hr
    · cases hr
    · next i hi =>
      split at hr
      · cases hq : sm_ret (sm_nL T y).2.1 i S with
        | none => rw [hq] at hr; cases hr
        | some v => rw [hq] at hr; cases hr; exact ⟨Nat.le_refl _, Nat.le_refl _, Nat.le_refl _⟩
      · split at hr
        · split at hr
          · next pc' L' S' h1 hs =>
            have a := sm_i_ge (T := T) (X := X) (ok := ok) (y := y) (i := i) (pc := pc) (L := L) (S := S) (h := h) _ hs
            have b := ih _ _ _ _ _ _ _ _ _ hr
            exact ⟨Nat.le_trans b.1 a.1, Nat.le_trans b.2.1 a.2.1, Nat.le_trans a.2.2 b.2.2⟩
          · cases hr
        · split at hr
          · cases hr
          · split at hr
            · split at hr
              · split at hr
                · next pc' L' S' h1 hs =>
                  have a := sm_lib_ge _ hs
                  have b := ih _ _ _ _ _ _ _ _ _ hr
                  exact ⟨Nat.le_trans b.1 a.1, Nat.le_trans b.2.1 a.2.1, Nat.le_trans a.2.2 b.2.2⟩
                · cases hr
              · cases hr
            · split at hr
              · split at hr
                · next v h1 hs =>
                  split at hr
                  · have a := sm_or_ge hs (fun hs => ih _ _ _ _ _ _ _ _ _ hs)
                    have b := ih _ _ _ _ _ _ _ _ _ hr
                    exact ⟨Nat.le_trans b.1 a.1, Nat.le_trans b.2.1 a.2.1, Nat.le_trans a.2.2 b.2.2⟩
                  · cases hr
                · next x h1 hs =>
                  have a := sm_or_ge hs (fun hs => ih _ _ _ _ _ _ _ _ _ hs)
                  split at hr
                  · cases hr
                  · split at hr
                    · cases hr
                    · cases hr
                      exact a
                    · split at hr
                      · have b := ih _ _ _ _ _ _ _ _ _ hr
                        exact ⟨Nat.le_trans b.1 a.1, Nat.le_trans b.2.1 a.2.1, Nat.le_trans a.2.2 b.2.2⟩
                      · cases hr
                · cases hr
              · cases hr
end
section
/-! ===== how a method begins, and what it ends with ===== -/
theorem sm_c1_cat {b : Nat} {ad : Nat → Nat} {v : Value} (h : sm_c1 v = true) : (sm_v b ad v).category = 1 := by
  cases v <;> first | rfl | cases h
theorem sm_args_mem : ∀ (vs : List Value) (k i : Nat) (v : Value), (∀ w ∈ vs, w.category = 1) → vs[i]? = some v → (k + i, v) ∈ lv_args k vs
  | [], _, _, _, _, h => by cases h
  | w :: vs, k, 0, v, _, h => by
    cases h
    exact List.mem_cons_self
  | w :: vs, k, i + 1, v, hc, h => by
    have h1 : w.category = 1 := hc w List.mem_cons_self
    have h2 := sm_args_mem vs (k + 1) i v (fun z hz => hc z (List.mem_cons_of_mem _ hz)) h
    have h3 : lv_args k (w :: vs) = (k, w) :: lv_args (k + 1) vs := by
      show (k, w) :: lv_args (if w.category = 2 then k + 2 else k + 1) vs = _
      rw [if_neg (by omega)]
    rw [h3, show k + (i + 1) = k + 1 + i by omega]
    exact List.mem_cons_of_mem _ h2
theorem sm_sl_len : ∀ (vs : List Value), (∀ w ∈ vs, w.category = 1) → (lg_sl vs).length = vs.length
  | [], _ => rfl
  | w :: vs, hc => by
    have h1 : w.category = 1 := hc w List.mem_cons_self
    have h2 := sm_sl_len vs (fun z hz => hc z (List.mem_cons_of_mem _ hz))
    have h3 : lg_sl (w :: vs) = .val w :: lg_sl vs := by
      simp [lg_sl, h1]
    rw [h3, List.length_cons, List.length_cons, h2]
theorem sm_entry {b n : Nat} {ad : Nat → Nat} {vs : List Value} (hc : vs.all sm_c1 = true) (hn : vs.length ≤ n) :
    sm_l b ad ((lg_sl (vs.map (sm_v b ad)) ++ List.replicate (n - (lg_sl (vs.map (sm_v b ad))).length) Slot.unset).toArray) n (sm_ent n vs) := by
  have hc2 : ∀ w ∈ vs.map (sm_v b ad), w.category = 1 := by
    intro w hw
    obtain ⟨v, hv, rfl⟩ := List.mem_map.mp hw
    exact sm_c1_cat (List.all_eq_true.mp hc v hv)
  have hl := sm_sl_len _ hc2
  have he := lv_entry (vs.map (sm_v b ad)) (n := n) (by rw [hl, List.length_map]; exact hn)
  refine ⟨by unfold sm_ent; simp; omega, he.1, he.2.1, fun i v hv => ?_⟩
  have hi : vs[i]? = some v := by
    unfold sm_ent at hv
    by_cases h9 : i < vs.length
    · rw [List.getElem?_append_left (by simpa using h9), List.getElem?_map] at hv
      cases h8 : vs[i]? with
      | none => rw [h8] at hv; cases hv
      | some w => rw [h8] at hv; cases hv; rfl
    · rw [List.getElem?_append_right (by simpa using h9)] at hv
      have := List.eq_of_mem_replicate (List.mem_of_getElem? hv)
      cases this
  have hm : (vs.map (sm_v b ad))[i]? = some (sm_v b ad v) := by rw [List.getElem?_map, hi]; rfl
  have h7 := he.2.2 _ (sm_args_mem _ 0 i _ hc2 hm)
  rw [Nat.zero_add] at h7
  exact ⟨h7, hc2 _ (List.mem_of_getElem? hm)⟩
/-- what every state of ours has: the tables' words on classes, nest mates and arrays, and KT -/
def sm_Kx (D : va_G) (cl : List vw_C) (cA : Nat → ClassId) (tyN : List FieldType) (NW : List Cond) (AO : List String) (KT : State → Prop) (U : State) : Prop :=
  va_K D cl (sm_tys cA tyN) U ∧ (∀ w ∈ NW, va_Nw w U) ∧ (∀ C ∈ AO, va_AO C U) ∧ KT U
/-- the nest words are of two kinds; KT goes on while the cells of fx stay; it says where the script lies -/
def sm_Mv (NW : List Cond) (b : Nat) (X : Nat × (Nat → Int32)) (fx : Nat → Prop) (KT : State → Prop) : Prop :=
  (∀ w ∈ NW, (∃ a i x n d h, w = .fieldLinkNest a i x n d h) ∨ ∃ a i x h, w = .methodLinkNest a i x h) ∧ (∀ U V : State, U.WarmedH V.vm → (∀ q, fx q → V.heap[q]? = U.heap[q]?) → KT U → KT V) ∧ (∀ U, KT U → va_X b X.1 X.2 U U.heap) ∧ fx b
theorem sm_Kx_mv {D : va_G} {cl : List vw_C} {cA : Nat → ClassId} {b : Nat} {NW : List Cond} {tyN : List FieldType} {AO : List String} {X : Nat × (Nat → Int32)} {fx : Nat → Prop} {KT : State → Prop} {U V : State} (hM : sm_Mv NW b X fx KT) (hW : U.WarmedH V.vm) (hq : ∀ q, fx q → V.heap[q]? = U.heap[q]?) (h : sm_Kx D cl cA tyN NW AO KT U) : sm_Kx D cl cA tyN NW AO KT V := by
  obtain ⟨h1, h2, h3, h4⟩ := h
  refine ⟨va_K.moved hW.alike h1, fun w hw => ?_, fun C hC => (h3 C hC).moved hW.alike, hM.2.1 U V hW hq h4⟩
  have h5 := h2 w hw
  rcases hM.1 w hw with ⟨a, i, x, n, d, h, rfl⟩ | ⟨a, i, x, h, rfl⟩
  · exact h5.warmF hW
  · exact h5.warmM hW
/-- a method's end with an answer -/
def sm_Qc (D : va_G) (cl : List vw_C) (cA : Nat → ClassId) (b : Nat) (A : Nat → Prop) (ad0 : Nat → Nat) (n0 : Nat) (v : Option Value) (h' : sm_H) : Array Value → State → Outcome → State → Prop := fun _ st oc t =>
  (∃ ad' : Nat → Nat, (∀ k, ¬ (n0 ≤ k ∧ k < h'.1.length) → ad' k = ad0 k) ∧ oc = .returned (v.map (sm_v b ad')) ∧ va_P D cl (sm_w cA ad' h') t.heap ∧ va_D A (sm_w cA ad' h')) ∧ va_F A st t
/-- .. and without one: what is thrown is an object of the class XC x -/
def sm_Qt (D : va_G) (cl : List vw_C) (cA : Nat → ClassId) (A : Nat → Prop) (ad0 : Nat → Nat) (n0 : Nat) (XC : Nat → String) (x : Nat) (h' : sm_H) (a : Addr) (st t : State) : Prop :=
  (∃ ad' : Nat → Nat, (∀ k, ¬ (n0 ≤ k ∧ k < h'.1.length) → ad' k = ad0 k) ∧ va_P D cl (sm_w cA ad' h') t.heap ∧ va_D A (sm_w cA ad' h')) ∧ va_F A st t ∧
  ∃ cell : Cell, t.heap[a]? = some cell ∧ cell.vm.isStatics = false ∧ t.vm.findClass (XC x) = some cell.cls
def sm_MT (below : List Frame) (Qa : Addr → State → Prop) (s : State) (mc ms : Nat) (free : Addr → Prop) : State → Prop := fun t =>
  ∃ a, t.status = .running ∧ Ended t below (.threw a) ∧ Qa a t ∧ s.WarmedH t.vm ∧ ∃ L, s.sameButNew ({ t with vm := s.vm } : State) L mc ms ∧ ∀ q ∈ L, free q.base
def sm_Q (D : va_G) (cl : List vw_C) (cA : Nat → ClassId) (b : Nat) (XC : Nat → String) (below : List Frame) (args : Array Value) (s : State) (A : Nat → Prop) (ad0 : Nat → Nat) (n0 C1 S1 : Nat) (o : sm_O) (h' : sm_H) : State → Prop := match o with
  | .inl v => MQ below (sm_Qc D cl cA b A ad0 n0 v h') args s (C1 - h'.2.2.2.1) (S1 - h'.2.2.2.2) A
  | .inr x => sm_MT below (fun a t => sm_Qt D cl cA A ad0 n0 XC x h' a s t) s (C1 - h'.2.2.2.1) (S1 - h'.2.2.2.2) A
def sm_rt (T : sm_T) (y : Nat) : Option FieldType := if (sm_nL T y).2.1 = 0 then none else if (sm_nL T y).2.1 = 1 then some .int else some .boolean
section SMR
variable {p : Program} {l : Launch} {e : Env} {R : Room} {s : State} {m : MethodId} {args : Array Value} {below : List Frame} {meth : Method} {c : Code} {D : va_G} {cl : List vw_C} {A : Nat → Prop} {nL : Nat} {cA : Nat → ClassId} {b : Nat} {ad0 : Nat → Nat} {n0 C1 S1 : Nat} {pc : Nat} {L : sm_L} {S : List Value} {h : sm_H} {XC : Nat → String} {cc : ByteArray}
/-- the answers -/
theorem sm_s_ret (hx : p.tables.exec = Jvm.exec) (hb : c.code = cc) {kd : Nat} (hr : meth.sig.returnType = (if kd = 0 then none else if kd = 1 then some .int else some .boolean)) (hlocks : meth.locks = false) {i : Instr} {len : Nat} (hd : decode cc pc = .ok (i, len)) (hlen : len = 1) {v : Option Value} (hi : sm_ret kd i S = some v) :
    sm_W p l e R s m args below meth c (sm_Q D cl cA b XC below args s A ad0 n0 C1 S1 (.inl v) h) D cl A s.heap nL cA b ad0 n0 C1 S1 pc L S h := by
  subst hlen
  intro ad H locs ls e1 hP hD hS hl
  unfold sm_ret at hi
  split at hi
  · cases hi
    exact W.vret hx hb hr (fun t ht hW => ⟨⟨ad, e1, rfl, by rw [ht]; exact hP, hD⟩, hS.F ht⟩) hS.2.2 hd hlocks
  · next x =>
    cases hi
    exact W.iret hx hb hr (fun t ht hW => ⟨⟨ad, e1, rfl, by rw [ht]; exact hP, hD⟩, hS.F ht⟩) hS.2.2 hd hlocks
  · next x =>
    split at hi
    · next hc =>
      cases hi
      exact W.zret (ty := .boolean) hx hb hr (by rcases hc with rfl | rfl <;> decide) (fun t ht hW => ⟨⟨ad, e1, rfl, by rw [ht]; exact hP, hD⟩, hS.F ht⟩) hS.2.2 hd hlocks
    · cases hi
  · cases hi
end SMR
end
section
/-! ===== calls that come back ===== -/
/-- what the tables say of the callee z of the entry idx of y's class -/
def sm_Go (cl : List vw_C) (WA NW : List Cond) (nm : Nat → MethodName) (cw : Nat → Cond) (T : sm_T) (y idx k z w : Nat) : Prop :=
  (k = 0 → Cond.methodLink (nm y).cls idx Lib.objectInit ∈ WA ∧ Cond.instanceMethod Lib.objectInit ∈ WA ∧ Cond.code Lib.objectInit ⟨#[0xb1]⟩ 1 none ∈ WA) ∧
  (k = 1 → Cond.methodLink (nm y).cls idx Lib.Math.max.name ∈ WA ∧ Cond.static Lib.Math.max.name ∈ WA ∧ Cond.initialized "java/lang/Math" ∈ WA ∧ Cond.code Lib.Math.max.name Lib.Math.max.code 2 (some .int) ∈ WA) ∧
  (k = 2 → Cond.methodLink (nm y).cls idx arraycopyName ∈ WA ∧ Cond.native arraycopyName ∈ WA ∧ Cond.static arraycopyName ∈ WA ∧ Cond.initialized "java/lang/System" ∈ WA) ∧
  (3 ≤ k → (Cond.methodLink (nm y).cls idx (nm z) ∈ WA ∨ ∃ host, Cond.methodLinkNest (nm y).cls idx (nm z) host ∈ NW) ∧ Cond.initialized (nm z).cls ∈ WA ∧ cw z ∈ WA ∧ plainName (nm z).cls = true ∧ ((nm z).cls ≠ "java/lang/invoke/MethodHandle" ∧ (nm z).cls ≠ "java/lang/invoke/VarHandle" ∧ (parseMethodDescriptor (nm z).desc).map (fun d => d.parameters.length) = some (if k = 3 then w else w - 1)) ∧ (k ≠ 3 → 1 ≤ w) ∧ (sm_nL T z).1 ≤ 40) ∧
  (k = 3 → Cond.static (nm z) ∈ WA) ∧
  (k = 4 → Cond.instanceMethod (nm z) ∈ WA ∧ Cond.selects (nm z).cls (nm z) (nm z) ∈ WA ∧ ∃ q : vw_C, cl[(sm_nL T z).2.2]? = some q ∧ q.1 = (nm z).cls) ∧
  (k = 5 → Cond.instanceMethod (nm z) ∈ WA ∧ (nm z).name = "<init>" ∧ (sm_nL T z).2.1 = 0)
theorem sm_back {p : Program} {l : Launch} {e : Env} {R : Room} {s : State} {m : MethodId} {args : Array Value} {below : List Frame} {meth : Method} {c : Code} {H : Heap} {locs : List Loc} {cells slots mc ms : Nat} {Q : State → Prop} {pc : Nat} {ls : Array Slot} {st0 rest : List Value} {Qa : State → Outcome → State → Prop} {A1 : Nat → Prop}
    (hr : va_Run p l e R s m args below meth c H locs cells slots mc ms (F0 m pc ls st0) rest Qa A1)
    (kk : ∀ (v : Option Value) (st₀ t : State) (L : List Loc), st₀.heap = H → s.WarmedH t.vm → (∀ q ∈ L, A1 q.base) → Qa st₀ (.returned v) t → W p l e R s m args below meth c t.heap (locs ++ L) (cells + mc) (slots + ms) Q (F0 m (pc + 3) ls (v.toList ++ rest))) :
    W p l e R s m args below meth c H locs cells slots Q (F0 m pc ls st0) := by
  intro T hT X
  obtain ⟨v, st₀, t, T', L, h0, X', hL, e1, e2, hq, st⟩ := hr T hT X
  obtain ⟨t2, a1, b1⟩ := kk v st₀ t L h0 (by rw [← e2]; exact X'.warmed) hL hq T' e1 X'
  exact ⟨t2, st t2 a1, b1⟩
theorem sm_good {WA : List Cond} (hG : ∀ w ∈ WA, goodWord w = true) {cwz : Cond} {Ts : List Cond} (hT : ∀ w ∈ WA, w ∈ Ts) (hz : cwz ∈ WA) : GoodIn Ts (cwz :: WA) := by
  intro w hw
  rcases List.mem_cons.mp hw with rfl | hw
  · exact ⟨hT _ hz, good_of_word (hG _ hz)⟩
  · exact ⟨hT _ hw, good_of_word (hG _ hw)⟩
/-- how a callee is called: by kind; the three instructions -/
theorem sm_run345 {p : Program} {l : Launch} {e : Env} {R : Room} {s : State} {m : MethodId} {args : Array Value} {below : List Frame} {meth : Method} {c : Code} {H : Heap} {locs : List Loc} {cells slots mc ms : Nat} {cc bytes : ByteArray} {nL maxL n idx k : Nat} {ret : Option FieldType} {WA NW : List Cond} {rm : Room} {Pc : Array Value → State → Prop} {Qc : Array Value → State → Outcome → State → Prop} {free : Addr → Prop} {own : String} {y : MethodName} {vs rest : List Value} {pc : Nat} {ls : Array Slot}
    (hx : p.tables.exec = Jvm.exec) (hb : c.code = cc) (hml : c.maxLocals = nL) (hown : s.vm.findClass own = some m.cls) (hts : ∀ w ∈ WA, w.before args s = true) (hN : ∀ w ∈ NW, va_Nw w s) (hG : ∀ w ∈ WA, goodWord w = true)
    (hM : Met l y (Cond.code y bytes maxL ret :: WA) rm Pc Qc mc ms free) (hcode : Cond.code y bytes maxL ret ∈ WA) (hrc : rm.cells = mc) (hrs : rm.slots = ms) (hini : Cond.initialized y.cls ∈ WA) (hlk : Cond.methodLink own idx y ∈ WA ∨ ∃ host, Cond.methodLinkNest own idx y host ∈ NW)
    (hds : y.cls ≠ "java/lang/invoke/MethodHandle" ∧ y.cls ≠ "java/lang/invoke/VarHandle" ∧ (parseMethodDescriptor y.desc).map (fun d => d.parameters.length) = some n) (hR : rm.frames + 1 ≤ R.frames ∧ 8 + (maxL + 11) + rm.locals ≤ R.locals)
    (hbl : FrameBlind Pc) (hpre : ∀ U : State, U.heap = H → s.WarmedH U.vm → Pc vs.toArray U) (hsize : ls.size = nL) (hW : (rest.map fun v => v.category).sum ≤ 8) (hf : cells + mc ≤ R.cells ∧ slots + ms ≤ R.slots)
    (hk : (k = 3 ∧ vs.length = n ∧ Cond.static y ∈ WA ∧ decode cc pc = .ok (.invokestatic idx, 3)) ∨
      (k = 4 ∧ vs.length = n + 1 ∧ Cond.instanceMethod y ∈ WA ∧ Cond.selects y.cls y y ∈ WA ∧ (∃ (a : Nat) (vs' : List Value) (cellB : Cell), vs = .ref a :: vs' ∧ H[a]? = some cellB ∧ cellB.vm.isStatics = false ∧ s.vm.findClass y.cls = some cellB.cls) ∧ decode cc pc = .ok (.invokevirtual idx, 3)) ∨
      (k = 5 ∧ vs.length = n + 1 ∧ Cond.instanceMethod y ∈ WA ∧ y.name = "<init>" ∧ ret = none ∧ (∃ (a : Nat) (vs' : List Value), vs = .ref a :: vs') ∧ decode cc pc = .ok (.invokespecial idx, 3))) :
    va_Run p l e R s m args below meth c H locs cells slots mc ms (F0 m pc ls (vs.reverse ++ rest)) rest (Qc vs.toArray) free := by
  have hcf : CallFix p m c cc nL s args WA own := ⟨hx, hb, hml, hown, hts⟩
  have hgd : GoodIn WA (Cond.code y bytes maxL ret :: WA) := sm_good hG (fun _ h => h) hcode
  have hW2 : ∀ st : List Value, 2 * (F0 m pc ls st).monitorRoom + (rest.map fun v => v.category).sum ≤ 8 := by
    intro st
    show 2 * 0 + _ ≤ 8
    omega
  rcases hk with ⟨-, hl, hst, hd⟩ | ⟨-, hl, hin, hse, ⟨a, vs', cellB, rfl, h1, h2, h3⟩, hd⟩ | ⟨-, hl, hin, hnm, hret, ⟨a, vs', rfl⟩, hd⟩
  · rcases hlk with hlk | ⟨host, hlk⟩
    · exact va_runS hcf hM ⟨callB_of n hts hgd rfl hrc hrs (hts _ hini) (hts _ hlk) hds hR, hts _ hst⟩ ⟨hbl, hpre⟩ rfl hl hsize rfl (hW2 _) hd hf
    · exact va_runSN hcf hM ⟨va_cnB n hts hgd rfl hrc hrs (hN _ hlk) (hts _ hini) hds hR, hts _ hst, trivial⟩ ⟨hbl, hpre⟩ rfl hl hsize rfl (hW2 _) hd hf
  · have es : ((Value.ref a :: vs').reverse ++ rest) = vs'.reverse ++ .ref a :: rest := by simp
    rw [es]
    have hl2 : vs'.length = n := by simpa using hl
    rcases hlk with hlk | ⟨host, hlk⟩
    · exact va_runV hcf hM ⟨callB_of n hts hgd rfl hrc hrs (hts _ hini) (hts _ hlk) hds hR, hts _ hin, hts _ hse⟩ ⟨hbl, ⟨cellB, h1, h2, h3⟩, hpre⟩ rfl hl2 hsize rfl (hW2 _) hd hf
    · exact va_runVN hcf hM ⟨va_cnB n hts hgd rfl hrc hrs (hN _ hlk) (hts _ hini) hds hR, hts _ hin, hts _ hse⟩ ⟨hbl, ⟨cellB, h1, h2, h3⟩, hpre⟩ rfl hl2 hsize rfl (hW2 _) hd hf
  · have es : ((Value.ref a :: vs').reverse ++ rest) = vs'.reverse ++ .ref a :: rest := by simp
    rw [es]
    have hl2 : vs'.length = n := by simpa using hl
    subst hret
    rcases hlk with hlk | ⟨host, hlk⟩
    · exact va_runI hcf hM ⟨callB_of n hts hgd rfl hrc hrs (hts _ hini) (hts _ hlk) hds hR, hnm, hts _ hin⟩ ⟨hbl, hpre⟩ rfl hl2 hsize rfl (hW2 _) hd hf
    · exact va_runIN hcf hM ⟨va_cnB n hts hgd rfl hrc hrs (hN _ hlk) (hts _ hini) hds hR, hnm, hts _ hin⟩ ⟨hbl, hpre⟩ rfl hl2 hsize rfl (hW2 _) hd hf
end
section
/-! ===== the JDK's own ===== -/
theorem sm_vcat {b : Nat} {ad : Nat → Nat} (v : Value) : (sm_v b ad v).category = v.category := by cases v <;> rfl
theorem sm_sum_map {b : Nat} {ad : Nat → Nat} (S : List Value) : ((S.map (sm_v b ad)).map fun v => v.category).sum = sm_sum S := by
  unfold sm_sum
  rw [List.map_map]
  congr 1
  exact List.map_congr_left fun v _ => sm_vcat v
section SML
variable {p : Program} {l : Launch} {e : Env} {R : Room} {s : State} {m : MethodId} {args : Array Value} {below : List Frame} {meth : Method} {c : Code} {Q : State → Prop} {cc : ByteArray} {D : va_G} {cl : List vw_C} {tys : List (ClassId × FieldType)} {A : Nat → Prop} {H0 : Heap} {nL : Nat} {cA : Nat → ClassId} {b : Nat} {ad0 : Nat → Nat} {n0 C1 S1 : Nat} {pc : Nat} {L : sm_L} {S : List Value} {h : sm_H} {r : sm_P} {WA NW : List Cond} {idx k z w y : Nat} {nm : Nat → MethodName} {cw : Nat → Cond} {T : sm_T}
theorem sm_nneg {x : Int32} (h : 0 ≤ x.toInt) : ¬ x < 0 := by
  rw [Int32.lt_iff_toInt_lt]
  have : (0 : Int32).toInt = 0 := by decide
  omega
set_option maxHeartbeats 1000000 in
theorem sm_s_lib (hx : p.tables.exec = Jvm.exec) (hb : c.code = cc) (hml : c.maxLocals = nL) (hown : s.vm.findClass (nm y).cls = some m.cls) (hts : ∀ w ∈ WA, w.before args s = true) (hK : va_K D cl tys s) (t0 : tys[0]? = some (cA 0, .int)) (hg : sm_Go cl WA NW nm cw T y idx k z w) (hfr : 1 ≤ R.frames) (hlo : 100 ≤ R.locals) (hce : C1 - h.2.2.2.1 ≤ R.cells ∧ S1 - h.2.2.2.2 ≤ R.slots)
    (hd : (k = 0 → decode cc pc = .ok (.invokespecial idx, 3)) ∧ (k = 1 ∨ k = 2 → decode cc pc = .ok (.invokestatic idx, 3))) (hi : sm_lib k (pc + 3) L S h = some r) (kk : sm_W p l e R s m args below meth c Q D cl A H0 nL cA b ad0 n0 C1 S1 r.1 r.2.1 r.2.2.1 r.2.2.2) : sm_W p l e R s m args below meth c Q D cl A H0 nL cA b ad0 n0 C1 S1 pc L S h := by
  obtain ⟨g0, g1, g2, -⟩ := hg
  unfold sm_lib at hi
  split at hi
  · next q rest =>
    split at hi
    · next hs =>
      cases hi
      obtain ⟨w1, w2, w3⟩ := g0 rfl
      intro ad H locs ls e1 hP hD hS hl
      exact W.objInit hx hb hown (hts _ w1) (hts _ w2) (hts _ w3) rfl (by rw [hml]; exact hl.2.1) rfl (hd.1 rfl) hfr (by rw [sm_sum_map]; show 2 * 0 + _ + 12 ≤ _; omega) (kk ad H locs ls e1 hP hD hS hl)
    · cases hi
  · next x y0 rest =>
    split at hi
    · next hs =>
      cases hi
      obtain ⟨w1, w2, w3, w4⟩ := g1 rfl
      intro ad H locs ls e1 hP hD hS hl
      exact va_mmax hx hb (hml.trans hl.2.1.symm) hown (hts _ w1) (hts _ w2) (hts _ w3) (hts _ w4) hfr (by rw [sm_sum_map]; omega) hce.1 hce.2 (hd.2 (Or.inl rfl)) (kk ad H locs ls e1 hP hD hS hl)
    · cases hi
  · next n dp q1 sp q0 rest =>
    split at hi
    · next n0' n1' hz0 hz1 =>
      split at hi
      · next hc =>
        obtain ⟨hs, c1, c2, c3, c4, c5⟩ := hc
        cases hi
        obtain ⟨w1, w2, w3, w4⟩ := g2 rfl
        intro ad H locs ls e1 hP hD hS hl
        have k1 : n.toNatClampNeg = n.toInt.toNat := rfl
        have k2 : sp.toNatClampNeg = sp.toInt.toNat := rfl
        have k3 : dp.toNatClampNeg = dp.toInt.toNat := rfl
        have k9 : nativeFrameWords "java/lang/System" "arraycopy" 5 ≤ 60 := by decide +kernel
        refine va_copyi hx hb (hml.trans hl.2.1.symm) hown (hts _ w1) (hts _ w2) (hts _ w3) (hts _ w4) hK hP hD hS q0 q1 0 0 (sm_w_get hz0) (sm_w_get hz1) t0 t0 rfl (sm_nneg c2) (sm_nneg c3) (sm_nneg c1) (by omega) (by omega) (fun _ _ => rfl) hfr (by rw [sm_sum_map]; omega) (hd.2 (Or.inr rfl)) (fun H1 locs1 hP1 hD1 hS1 => ?_)
        have ew := sm_w_mem (cA := cA) (ad := ad) (sh := h.1) (M := h.2.1) (M' := sm_uf h.2.1 q1 (va_cpy (h.2.1 q0) (h.2.1 q1) sp.toNatClampNeg dp.toNatClampNeg n.toNatClampNeg)) (J := h.2.2.1) (J' := h.2.2.1) (r := h.2.2.2) (r' := h.2.2.2) hz1 sm_uf_ne (fun _ _ => rfl)
        simp only [sm_e, sm_uf_eq] at ew
        exact kk ad H1 locs1 ls e1 (by show va_P D cl (sm_w cA ad (h.1, sm_uf h.2.1 q1 (va_cpy (h.2.1 q0) (h.2.1 q1) sp.toNatClampNeg dp.toNatClampNeg n.toNatClampNeg), h.2.2.1, h.2.2.2)) H1; rw [ew]; exact hP1) (by show va_D A (sm_w cA ad (h.1, sm_uf h.2.1 q1 (va_cpy (h.2.1 q0) (h.2.1 q1) sp.toNatClampNeg dp.toNatClampNeg n.toNatClampNeg), h.2.2.1, h.2.2.2)); rw [ew]; exact hD1) hS1 hl
      · cases hi
    · cases hi
  · cases hi
end SML
end
section
/-! ===== every run of the small machine is a run of the machine ===== -/
/-- a method's start -/
def sm_Pc (D : va_G) (cl : List vw_C) (cA : Nat → ClassId) (b : Nat) (tyN : List FieldType) (NW : List Cond) (AO : List String) (KT : State → Prop) (fx : Nat → Prop) (ad : Nat → Nat) (sz : Nat) (vs : List Value) (h : sm_H) : Array Value → State → Prop :=
  va_Pc (vs.map (sm_v b ad)) (fun U => U.heap.size = sz ∧ va_P D cl (sm_w cA ad h) U.heap ∧ va_D (fun _ => True) (sm_w cA ad h) ∧ sm_Kx D cl cA tyN NW AO KT U ∧ ∀ q, fx q → q < sz ∧ ¬ va_A (sm_w cA ad h) sz q)
/-- what the main theorem says of fuel n -/
def sm_Pn (l : Launch) (D : va_G) (cl : List vw_C) (cA : Nat → ClassId) (b : Nat) (WA NW : List Cond) (T : sm_T) (ok : Nat → Nat → Bool) (tyN : List FieldType) (AO : List String) (bc : Nat → ByteArray) (nm : Nat → MethodName) (X : Nat × (Nat → Int32)) (fx : Nat → Prop) (KT : State → Prop) (XC : Nat → String) (eh : Nat → List (Nat × Nat × Nat × Nat)) (n : Nat) : Prop :=
  ∀ (d lw y pc : Nat) (L : sm_L) (S : List Value) (h : sm_H) (o : sm_O) (h' : sm_H), sm_run T X ok n d lw y pc L S h = some (o, h') →
  ∀ (p : Program) (e : Env) (R : Room) (s : State) (m : MethodId) (args : Array Value) (below : List Frame) (meth : Method) (c : Code) (A : Nat → Prop) (ad0 : Nat → Nat) (n0 C1 S1 : Nat), p.tables.exec = Jvm.exec → c.code = bc y → c.maxLocals = (sm_nL T y).1 → meth.sig.returnType = sm_rt T y → meth.locks = false → s.vm.findClass (nm y).cls = some m.cls → meth.name = (nm y).name → c.exceptionTable.toList = (eh y).map (fun q => ⟨q.1, q.2.1, q.2.2.1, q.2.2.2⟩) →
    (∀ w ∈ WA, w.before args s = true) → sm_Kx D cl cA tyN NW AO KT s → (∀ q, fx q → q < s.heap.size ∧ ¬ A q) → (∀ q, s.heap.size ≤ q → A q) → n0 ≤ h.1.length → h.2.2.2.1 ≤ C1 ∧ h.2.2.2.2 ≤ S1 → C1 - h'.2.2.2.1 ≤ R.cells ∧ S1 - h'.2.2.2.2 ≤ R.slots → d ≤ R.frames → lw ≤ R.locals →
    sm_W p l e R s m args below meth c (sm_Q D cl cA b XC below args s A ad0 n0 C1 S1 o h') D cl A s.heap (sm_nL T y).1 cA b ad0 n0 C1 S1 pc L S h
section SMQ
variable {l : Launch} {D : va_G} {cl : List vw_C} {cA : Nat → ClassId} {b : Nat} {WA NW : List Cond} {T : sm_T} {ok : Nat → Nat → Bool} {tyN : List FieldType} {AO : List String} {bc : Nat → ByteArray} {nm : Nat → MethodName} {X : Nat × (Nat → Int32)} {fx : Nat → Prop} {KT : State → Prop} {XC : Nat → String} {eh : Nat → List (Nat × Nat × Nat × Nat)} {n : Nat}
/-- a callee without handlers keeps its contract -/
theorem sm_met (hP : sm_Pn l D cl cA b WA NW T ok tyN AO bc nm X fx KT XC eh n) {d lw z : Nat} {vs : List Value} {h h' : sm_H} {v : Option Value} (hrun : sm_run T X ok n d lw z 0 (sm_ent (sm_nL T z).1 vs) [] h = some (.inl v, h')) (hvs : vs.all sm_c1 = true) (hlen : vs.length ≤ (sm_nL T z).1) (hpl : plainName (nm z).cls = true) (hez : eh z = []) (ad : Nat → Nat) (sz : Nat) :
    Met l (nm z) (Cond.code (nm z) (bc z) (sm_nL T z).1 (sm_rt T z) :: WA) { frames := d, cells := h.2.2.2.1 - h'.2.2.2.1, slots := h.2.2.2.2 - h'.2.2.2.2, locals := lw } (sm_Pc D cl cA b tyN NW AO KT fx ad sz vs h) (sm_Qc D cl cA b (va_A (sm_w cA ad h) sz) ad h.1.length v h') (h.2.2.2.1 - h'.2.2.2.1) (h.2.2.2.2 - h'.2.2.2.2) (va_A (sm_w cA ad h) sz) := by
  refine Met.ofW (cc := bc z) (maxL := (sm_nL T z).1) (ret := sm_rt T z) hpl rfl ?_
  intro p e s m args below meth c s₁ B hml hv
  obtain ⟨rfl, hsz, hPw, hDw, hK, hfx⟩ := hv
  have hts := atoms_spec (ws := Cond.code (nm z) (bc z) (sm_nL T z).1 (sm_rt T z) :: WA) B.pre
  have hcode := hts _ List.mem_cons_self
  have hown : s.vm.findClass (nm z).cls = some m.cls := findClass_of_methodNamed B.named
  have hnm : meth.name = (nm z).name := (name_of_methodNamed B.named B.method).1
  have hemp := B.noHandlers hcode
  have het : c.exceptionTable.toList = (eh z).map (fun q => ⟨q.1, q.2.1, q.2.2.1, q.2.2.2⟩) := by
    rw [hez]
    have h0 : c.exceptionTable.size = 0 := by simpa [Array.isEmpty] using hemp
    exact List.eq_nil_of_length_eq_zero (by simpa using h0)
  subst hsz
  rw [lg_entry_eq]
  have W0 := hP d lw z 0 (sm_ent (sm_nL T z).1 vs) [] h (.inl v) h' hrun p e { frames := d, cells := h.2.2.2.1 - h'.2.2.2.1, slots := h.2.2.2.2 - h'.2.2.2.2, locals := lw } s m (vs.map (sm_v b ad)).toArray below meth c (va_A (sm_w cA ad h) s.heap.size) ad h.1.length h.2.2.2.1 h.2.2.2.2 B.exec B.bytes hml B.returns B.notSynchronized hown hnm het (fun w hw => hts w (List.mem_cons_of_mem _ hw)) hK hfx (fun q hq => Or.inr hq) (Nat.le_refl _) ⟨Nat.le_refl _, Nat.le_refl _⟩ ⟨Nat.le_refl _, Nat.le_refl _⟩ (Nat.le_refl _) (Nat.le_refl _)
  have W1 := W0 ad s.heap [] _ (fun _ _ => rfl) hPw hDw.self va_S.rf (sm_entry hvs hlen)
  rw [Nat.sub_self, Nat.sub_self] at W1
  exact W1
theorem sm_blind (hM : sm_Mv NW b X fx KT) {ad : Nat → Nat} {sz : Nat} {vs : List Value} {h : sm_H} : FrameBlind (sm_Pc D cl cA b tyN NW AO KT fx ad sz vs h) := by
  intro a U g mk q
  obtain ⟨q0, q1, q2, q3, q4, q5⟩ := q
  exact ⟨q0, q1, q2, q3, sm_Kx_mv (V := U.calling g mk a) hM (State.WarmedH.refl U) (fun _ _ => rfl) q4, q5⟩
end SMQ
end
section
/-! ===== the main theorem ===== -/
def sm_cw (T : sm_T) (bc : Nat → ByteArray) (nm : Nat → MethodName) (eh : Nat → List (Nat × Nat × Nat × Nat)) (z : Nat) : Cond := match eh z with
  | [] => Cond.code (nm z) (bc z) (sm_nL T z).1 (sm_rt T z)
  | q :: r => Cond.codeWith (nm z) (bc z) (sm_nL T z).1 (sm_rt T z) (q :: r)
theorem sm_rcv4 {ci : Nat} {vs : List Value} {h : sm_H} (w : sm_rcv 4 ci vs h = true) : ∃ q rest fs, vs = .ref q :: rest ∧ h.1[q]? = some (.inl (ci, fs)) := by
  cases vs with
  | nil => cases w
  | cons v rest =>
    cases v with
    | ref q =>
      have w : (match h.1[q]? with
        | some (.inl (cj, _)) => decide (ci = cj)
        | _ => false) = true := w
      split at w
      · next cj fs hz =>
        have hcj := of_decide_eq_true w
        subst hcj
        exact ⟨q, rest, fs, rfl, hz⟩
      · cases w
    | _ => cases w
theorem sm_rcv5 {ci : Nat} {vs : List Value} {h : sm_H} (w : sm_rcv 5 ci vs h = true) : ∃ q rest, vs = .ref q :: rest := by
  cases vs with
  | nil => cases w
  | cons v rest =>
    cases v with
    | ref q => exact ⟨q, rest, rfl⟩
    | _ => cases w
section SMA
variable {l : Launch} {D : va_G} {cl : List vw_C} {cA : Nat → ClassId} {b : Nat} {WA NW : List Cond} {T : sm_T} {ok : Nat → Nat → Bool} {tyN : List FieldType} {AO : List String} {bc : Nat → ByteArray} {nm : Nat → MethodName} {X : Nat × (Nat → Int32)} {fx : Nat → Prop} {KT : State → Prop} {XC : Nat → String} {eh : Nat → List (Nat × Nat × Nat × Nat)} {n : Nat}
theorem sm_dec_of (TB : sm_Tab T ok cl WA NW tyN AO bc nm) {y pc : Nat} {i : Instr} (h : sm_ins T y pc = some i) (ht : sm_tsw i = false) : decode (bc y) pc = .ok (i, sm_len i) := by
  obtain ⟨len, h1, h2, -⟩ := TB.2.2.2.2.1 y pc i h
  rw [h2 ht] at h1
  exact h1
/-- the opcode of a call, by its kind -/
theorem sm_inv_op {y : Nat} {i : Instr} {k z w : Nat} (h : sm_inv T y i = some (k, z, w)) : ∃ idx, sm_cal T y idx = some (k, z, w) ∧ ((i = .invokestatic idx ∧ (k = 1 ∨ k = 2 ∨ k = 3)) ∨ (i = .invokevirtual idx ∧ k = 4) ∨ (i = .invokespecial idx ∧ (k = 0 ∨ k = 5))) := by
  unfold sm_inv at h
  split at h
  · next j =>
    split at h
    · next k' z' w' hc =>
      split at h
      · next hk => cases h; exact ⟨j, hc, Or.inl ⟨rfl, hk⟩⟩
      · cases h
    · cases h
  · next j =>
    split at h
    · next k' z' w' hc =>
      split at h
      · next hk => cases h; exact ⟨j, hc, Or.inr (Or.inl ⟨rfl, hk⟩)⟩
      · cases h
    · cases h
  · next j =>
    split at h
    · next k' z' w' hc =>
      split at h
      · next hk => cases h; exact ⟨j, hc, Or.inr (Or.inr ⟨rfl, hk⟩)⟩
      · cases h
    · cases h
  · cases h
/-- behind a callee's answer the caller goes on -/
theorem sm_on {p : Program} {e : Env} {R : Room} {s : State} {m : MethodId} {args : Array Value} {below : List Frame} {meth : Method} {c : Code} {A : Nat → Prop} {ad0 : Nat → Nat} {n0 C1 S1 pc w nL : Nat} {L : sm_L} {S : List Value} {h h1 : sm_H} {Q : State → Prop} {v : Option Value} {ad : Nat → Nat} {H : Heap} {locs : List Loc} {ls : Array Slot} {av : Array Value} (hA : ∀ q, s.heap.size ≤ q → A q) (hn0 : n0 ≤ h.1.length) (hle : h.2.2.2.1 ≤ C1 ∧ h.2.2.2.2 ≤ S1) (hge : h1.2.2.2.1 ≤ h.2.2.2.1 ∧ h1.2.2.2.2 ≤ h.2.2.2.2 ∧ h.1.length ≤ h1.1.length) (hok : sm_ok2 L (S.drop w) h h1 = true)
    (e1 : ∀ k, ¬ (n0 ≤ k ∧ k < h.1.length) → ad k = ad0 k) (hD : va_D A (sm_w cA ad h)) (hS : va_S A s.heap H locs) (hl : sm_l b ad ls nL L)
    (hr : va_Run p l e R s m args below meth c H locs (C1 - h.2.2.2.1) (S1 - h.2.2.2.2) (h.2.2.2.1 - h1.2.2.2.1) (h.2.2.2.2 - h1.2.2.2.2) (F0 m pc ls (S.map (sm_v b ad))) ((S.drop w).map (sm_v b ad)) (sm_Qc D cl cA b (va_A (sm_w cA ad h) H.size) ad h.1.length v h1 av) (va_A (sm_w cA ad h) H.size))
    (kk : sm_W p l e R s m args below meth c Q D cl A s.heap nL cA b ad0 n0 C1 S1 (pc + 3) L (v.toList ++ S.drop w) h1) :
    W p l e R s m args below meth c H locs (C1 - h.2.2.2.1) (S1 - h.2.2.2.2) Q (F0 m pc ls (S.map (sm_v b ad))) := by
  have hAA : ∀ q, va_A (sm_w cA ad h) H.size q → A q := by
    intro q hq
    rcases hq with ⟨k, e, hq⟩ | hq
    · exact hD.2 k (q, e) hq
    · exact hA q (Nat.le_trans hS.1 hq)
  refine sm_back hr (fun v0 st₀ t Ls h0 hW hLs hq => ?_)
  obtain ⟨⟨ad', ea, eo, hP1, hD1⟩, hF1, hF2⟩ := hq
  cases eo
  rw [h0] at hF1 hF2
  have ga : ∀ k, k < h.1.length → ad' k = ad k := fun k hk => ea k (by omega)
  have gl : sm_l b ad' ls nL L ∧ (S.drop w).map (sm_v b ad') = (S.drop w).map (sm_v b ad) := by
    unfold sm_ok2 at hok
    rw [Bool.or_eq_true] at hok
    rcases hok with hok | hok
    · have hz : h1.1.length = h.1.length := of_decide_eq_true hok
      have : ad' = ad := funext fun k => ea k (by omega)
      subst this
      exact ⟨hl, rfl⟩
    · unfold sm_wfL at hok
      rw [Bool.and_eq_true] at hok
      exact ⟨sm_l_ext hl hok.1 ga, sm_S_ext hok.2 ga⟩
  have kk := kk ad' t.heap (locs ++ Ls) ls (fun k hk => by
    by_cases hk2 : k < n0
    · rw [ea k (by omega), e1 k (by omega)]
    · rw [ea k (by omega), e1 k (by omega)]) hP1 (hD1.weaken fun _ q _ hq => hAA q.1 hq) ⟨Nat.le_trans hS.1 hF1, fun q hq1 hq2 => by
      rw [hF2 q (Nat.lt_of_lt_of_le hq1 hS.1) (fun z => hq2 (hAA q z))]
      exact hS.2.1 q hq1 hq2, fun q hq => by
      rcases List.mem_append.mp hq with hq | hq
      · exact hS.2.2 q hq
      · exact hAA _ (hLs q hq)⟩ gl.1
  have es : (v.toList ++ S.drop w).map (sm_v b ad') = (v.map (sm_v b ad')).toList ++ (S.drop w).map (sm_v b ad) := by
    rw [List.map_append, gl.2]
    cases v <;> rfl
  rw [es] at kk
  have g1 : C1 - h1.2.2.2.1 = C1 - h.2.2.2.1 + (h.2.2.2.1 - h1.2.2.2.1) := by omega
  have g2 : S1 - h1.2.2.2.2 = S1 - h.2.2.2.2 + (h.2.2.2.2 - h1.2.2.2.2) := by omega
  rw [g1, g2] at kk
  exact kk
end SMA
end
section
/-! ===== what throws: a callee's end without an answer ===== -/
/-- a contract whose end is a throw -/
def sm_MetT (l : Launch) (y : MethodName) (ws : List Cond) (rm : Room) (Pc : Array Value → State → Prop) (Qa : State → Addr → State → Prop) (mc ms : Nat) (free : Addr → Prop) : Prop :=
  MetFree l y (headSpec ws rm) Pc (fun _ _ _ _ _ => True) (fun _ st o t => ∃ x, o = .threw x ∧ Qa st x t ∧ st.WarmedH t.vm ∧ ∃ L, st.sameButNew ({ t with vm := st.vm } : State) L mc ms ∧ ∀ q ∈ L, free q.base)
theorem sm_MetT_ofW {l : Launch} {y : MethodName} {ws ws' : List Cond} {rm : Room} {Pc : Array Value → State → Prop} {Qa : State → Addr → State → Prop} {mc ms : Nat} {free : Addr → Prop} {cc : ByteArray} {maxL : Nat} {ret : Option FieldType}
    (hy : plainName y.cls = true) (hw : ws = Cond.code y cc maxL ret :: ws')
    (body : ∀ p e s m args below meth c s₁, BodyLoose p l y (headSpec ws rm) cc maxL ret e s m args below meth c s₁ → c.maxLocals = maxL → Pc args s →
      W p l e (headSpec ws rm).room s m args below meth c s.heap [] 0 0 (sm_MT below (fun a t => Qa s a t) s mc ms free) (entryFrame m args maxL)) : sm_MetT l y ws rm Pc Qa mc ms free := by
  refine MetFree.of_bodyS (code := cc) (maxLocals := maxL) (ret := ret) hy ?_ ?_
  · intro args s m h hn
    obtain ⟨meth, c, h1, h2, h3, h4, h5, h6, -, -⟩ := Cond.code_spec hn (atoms_spec (ws := ws) h _ (by rw [hw]; exact List.mem_cons_self))
    exact ⟨meth, c, h1, h2, h3, h4, h5, h6⟩
  · intro p e s m args below meth c s₁ B hml hP _
    have hh0 : s₁.heap = s.heap := by rw [B.state]; rfl
    obtain ⟨t, a1, x, b1, b2, b3, b4, b5⟩ := body p e s m args below meth c s₁ B hml hP s₁ hh0 (Stand.of_body B)
    exact ⟨t, .threw x, a1, b1, b2, x, rfl, b3, b4, b5⟩
section SMT
variable {p : Program} {l : Launch} {e : Env} {R : Room} {s : State} {m : MethodId} {args : Array Value} {below : List Frame} {meth : Method} {c : Code} {locs : List Loc} {cells slots : Nat}
/-- into a callee that throws, and back to the caller's frame with the throw laid over it -/
theorem sm_into {U : State} (X : Stand p l e R s m args below meth c U locs cells slots) {g : JFrame} (hg : g.method = m) (hsize : g.locals.size = c.maxLocals) {ig : Instr} {len : Nat} (hdg : decode c.code g.pc = .ok (ig, len)) (hW : 2 * g.monitorRoom + (g.stack.map fun v => v.category).sum ≤ 8)
    {y : MethodName} {mk : MethodId} {vs : Array Value} (hn : U.methodNamed? y = some mk) {ws : List Cond} {rm : Room} {Pc : Array Value → State → Prop} {Qa : State → Addr → State → Prop} {mc ms : Nat} {free : Addr → Prop} {bytes : ByteArray} {maxL : Nat} {ret : Option FieldType} (hM : sm_MetT l y ws rm Pc Qa mc ms free)
    (hcode : (Cond.code y bytes maxL ret).before vs U = true) (hini : (Cond.initialized y.cls).before vs U = true) (hws : ∀ w ∈ ws, w.before vs U = true) (hrc : rm.cells = mc) (hrs : rm.slots = ms) (hfr : rm.frames + 1 ≤ R.frames) (hlo : 8 + (maxL + 11) + rm.locals ≤ R.locals) (hce : cells + mc ≤ R.cells ∧ slots + ms ≤ R.slots) (hPc : Pc vs (U.calling g mk vs)) :
    ∃ (x : Addr) (t V : State) (Lc : List Loc), Stand p l e R s m args below meth c V (locs ++ Lc) (cells + mc) (slots + ms) ∧ V.heap = t.heap ∧ V.vm = t.vm ∧ Qa (U.calling g mk vs) x t ∧ (∀ q ∈ Lc, free q.base) ∧
      ∀ acts, Steps p.tables e below (doInvoke e (U.setTop g) acts mk vs).1 ((V.setTop g).pushFrame (.throwing x)) := by
  subst hg
  obtain ⟨methY, cY, hmY, hcY, -, hlY, -, -, -, -⟩ := Cond.code_spec hn hcode
  obtain ⟨kY, hkY, -⟩ := className_of_methodNamed hn
  have hinitY : kY.init = .initialized := Cond.initialized_spec (findClass_of_methodNamed hn) hkY hini
  have happ : (headSpec ws rm).appliesLoose y e.platform (U.calling g mk vs) = true :=
    Spec.appliesLoose_calling (g := g) X.here hdg hn hkY hinitY
      (X.room_calling (g := g) (R' := (headSpec ws rm).room) hsize hmY hcY hfr (by rw [hlY]; show _ + rm.locals ≤ R.locals; omega) (by show cells + rm.cells ≤ R.cells; rw [hrc]; exact hce.1) (by show slots + rm.slots ≤ R.slots; rw [hrs]; exact hce.2)) (atoms_intro hws)
  obtain ⟨mid, hmid⟩ := X.here.above
  have hfr2 : (U.setTop g).frames = (.java g :: mid) ++ below := by rw [State.frames_setTop' g X.here.top, hmid]; rfl
  obtain ⟨o, t, hsteps, -, hend, hq⟩ := Steps.callFree hM p X.admits X.cas X.clock (acts := []) hfr2 happ hPc trivial
  obtain ⟨x, rfl, hQa, hWt, Lc, hsame, hLc⟩ := hq
  have hWt : U.WarmedH t.vm := hWt
  rw [State.frames_setTop' g X.here.top] at hend
  have hft : t.frames = .throwing x :: .java g :: U.frames.tail := hend
  have hsame : (U.calling g mk vs).sameButNew ({ t with vm := (U.calling g mk vs).vm } : State) Lc mc ms := hsame
  obtain ⟨e2, q2, q3, q4, q5, q6⟩ := id hsame
  obtain ⟨g₀, hg0⟩ := Option.isSome_iff_exists.mp X.here.top
  obtain ⟨r, hr⟩ := State.topJava?_eq_some.mp hg0
  have hst : t = ((({ U with heap := t.heap, slotsUsed := t.slotsUsed } : State).setVm t.vm).setTop g).pushFrame (.throwing x) := by
    have e3 : t = ({ (U.calling g mk vs).setFrames t.frames with heap := t.heap, slotsUsed := t.slotsUsed } : State).setVm t.vm := by
      have e4 : t = ({ t with vm := (U.calling g mk vs).vm } : State).setVm t.vm := rfl
      rw [e2] at e4
      exact e4
    have hr' : (({ U with heap := t.heap, slotsUsed := t.slotsUsed } : State).setVm t.vm).frames = .java g₀ :: r := hr
    refine e3.trans ?_
    rw [hft, State.calling_eq X.here.top, State.setFrames_setFrames, State.pushFrame, State.frames_setTop _ hr', State.setTop_of_frames _ hr', State.setFrames_setFrames, hr]
    rfl
  have hsame2 : U.sameButNew ({ U with heap := t.heap, slotsUsed := t.slotsUsed } : State) Lc mc ms := by
    refine ⟨?_, q2, q3, q4, q5, q6⟩
    obtain ⟨th, hth, -⟩ := State.frames_cons hr
    show ({ U with heap := t.heap, slotsUsed := t.slotsUsed } : State) = { U.setFrames U.frames with heap := t.heap, slotsUsed := t.slotsUsed }
    rw [State.setFrames_self hth]
  refine ⟨x, t, ({ U with heap := t.heap, slotsUsed := t.slotsUsed } : State).setVm t.vm, Lc,
    ⟨X.admits, X.cas, X.clock, X.frames, X.room, X.hears, X.method, X.code, (X.here.setHeapUsed t.heap t.slotsUsed).setVm hWt.alike, X.tail, State.WarmedH.trans X.warmed hWt, X.limits, X.bytes, X.same.trans (hsame2.setVm s.vm)⟩, rfl, rfl, hQa, hLc, fun acts => ?_⟩
  rw [doInvoke_state] at hsteps ⊢
  rw [← hst]
  exact hsteps
end SMT
end
section
/-! ===== calls that don't come back, and where they are caught ===== -/
section SMU
variable {p : Program} {l : Launch} {e : Env} {R : Room} {s : State} {m : MethodId} {args : Array Value} {below : List Frame} {meth : Method} {c : Code} {H : Heap} {locs : List Loc} {cells slots : Nat}
theorem sm_thrown {mc ms : Nat} {cc bytes : ByteArray} {nL maxL n idx k : Nat} {ret : Option FieldType} {WA NW : List Cond} {rm : Room} {Pc : Array Value → State → Prop} {Qa : State → Addr → State → Prop} {free : Addr → Prop} {own : String} {y : MethodName} {vs rest : List Value} {pc : Nat} {ls : Array Slot}
    (hx : p.tables.exec = Jvm.exec) (hb : c.code = cc) (hml : c.maxLocals = nL) (hown : s.vm.findClass own = some m.cls) (hts : ∀ w ∈ WA, w.before args s = true) (hN : ∀ w ∈ NW, va_Nw w s) (hG : ∀ w ∈ WA, goodWord w = true)
    (hM : sm_MetT l y (Cond.code y bytes maxL ret :: WA) rm Pc Qa mc ms free) (hcode : Cond.code y bytes maxL ret ∈ WA) (hrc : rm.cells = mc) (hrs : rm.slots = ms) (hini : Cond.initialized y.cls ∈ WA) (hlk : Cond.methodLink own idx y ∈ WA ∨ ∃ host, Cond.methodLinkNest own idx y host ∈ NW)
    (hds : y.cls ≠ "java/lang/invoke/MethodHandle" ∧ y.cls ≠ "java/lang/invoke/VarHandle" ∧ (parseMethodDescriptor y.desc).map (fun d => d.parameters.length) = some n) (hR : rm.frames + 1 ≤ R.frames ∧ 8 + (maxL + 11) + rm.locals ≤ R.locals)
    (hbl : FrameBlind Pc) (hpre : ∀ U : State, U.heap = H → s.WarmedH U.vm → Pc vs.toArray U) (hsize : ls.size = nL) (hW : (rest.map fun v => v.category).sum ≤ 8) (hf : cells + mc ≤ R.cells ∧ slots + ms ≤ R.slots)
    (hk : (k = 3 ∧ vs.length = n ∧ Cond.static y ∈ WA ∧ decode cc pc = .ok (.invokestatic idx, 3)) ∨
      (k = 4 ∧ vs.length = n + 1 ∧ Cond.instanceMethod y ∈ WA ∧ Cond.selects y.cls y y ∈ WA ∧ (∃ (a : Nat) (vs' : List Value) (cellB : Cell), vs = .ref a :: vs' ∧ H[a]? = some cellB ∧ cellB.vm.isStatics = false ∧ s.vm.findClass y.cls = some cellB.cls) ∧ decode cc pc = .ok (.invokevirtual idx, 3))) :
    ∀ T : State, T.heap = H → Stand p l e R s m args below meth c T locs cells slots → ∃ (x : Addr) (st₀ t V : State) (Lc : List Loc), st₀.heap = H ∧ Stand p l e R s m args below meth c V (locs ++ Lc) (cells + mc) (slots + ms) ∧ V.heap = t.heap ∧ V.vm = t.vm ∧ Qa st₀ x t ∧ (∀ q ∈ Lc, free q.base) ∧
      ∀ target, Steps p.tables e below ((V.setTop (F0 m pc ls rest)).pushFrame (.throwing x)) target → Steps p.tables e below (T.setTop (F0 m pc ls (vs.reverse ++ rest))) target := by
  intro T hT X
  have hsz2 : ls.size = c.maxLocals := hsize.trans hml.symm
  have hW2 : 2 * (F0 m pc ls rest).monitorRoom + ((F0 m pc ls rest).stack.map fun v => v.category).sum ≤ 8 := by
    show 2 * 0 + _ ≤ 8
    have : ((F0 m pc ls rest).stack.map fun v => v.category).sum = (rest.map fun v => v.category).sum := rfl
    omega
  have hcodeS := hts _ hcode
  obtain ⟨mk, hnamed⟩ := Cond.code_named hcodeS
  obtain ⟨methM, cM, hmethM, -, -, -, -, -, -, hsigM⟩ := Cond.code_spec hnamed hcodeS
  obtain ⟨kP, hkP, -⟩ := className_of_methodNamed hnamed
  have hinitP : kP.init = .initialized := Cond.initialized_spec (findClass_of_methodNamed hnamed) hkP (hts _ hini)
  have hnp : methM.sig.parameters.length = n := by
    have h2 := hds.2.2
    rw [hsigM] at h2
    exact Option.some.inj h2
  have fin : ∀ (vm₁ : Vm) (i2 : Instr), decode c.code pc = .ok (i2, 3) → Stand p l e R s m args below meth c (T.setVm vm₁) locs cells slots → (∀ target, (∀ acts, Steps p.tables e below (doInvoke e ((T.setVm vm₁).setTop (F0 m pc ls rest)) acts mk vs.toArray).1 target) → Steps p.tables e below (T.setTop (F0 m pc ls (vs.reverse ++ rest))) target) →
      ∃ (x : Addr) (st₀ t V : State) (Lc : List Loc), st₀.heap = H ∧ Stand p l e R s m args below meth c V (locs ++ Lc) (cells + mc) (slots + ms) ∧ V.heap = t.heap ∧ V.vm = t.vm ∧ Qa st₀ x t ∧ (∀ q ∈ Lc, free q.base) ∧
      ∀ target, Steps p.tables e below ((V.setTop (F0 m pc ls rest)).pushFrame (.throwing x)) target → Steps p.tables e below (T.setTop (F0 m pc ls (vs.reverse ++ rest))) target := by
    intro vm₁ i2 hd2 X₁ hstep
    have hW₁ : s.WarmedH (T.setVm vm₁).vm := X₁.warmed
    have hwd : ∀ w ∈ WA, w.before vs.toArray (T.setVm vm₁) = true := fun w hw => word_at hW₁ (good_of_word (hG w hw)) (hts w hw)
    obtain ⟨x, t, V, Lc, XV, e1, e2, hq, hLc, hst⟩ := sm_into X₁ (g := F0 m pc ls rest) rfl hsz2 hd2 hW2 (X₁.named hnamed) (vs := vs.toArray) hM (hwd _ hcode) (hwd _ hini) (fun w hw => by
      rcases List.mem_cons.mp hw with rfl | hw
      · exact hwd _ hcode
      · exact hwd _ hw) hrc hrs hR.1 hR.2 hf (hbl _ _ _ _ (hpre _ hT hW₁))
    exact ⟨x, (T.setVm vm₁).calling (F0 m pc ls rest) mk vs.toArray, t, V, Lc, hT, XV, e1, e2, hq, hLc, fun target htg => hstep target (fun acts => (hst acts).trans htg)⟩
  rcases hk with ⟨-, hl, hst, hd⟩ | ⟨-, hl, hin, hse, ⟨a, vs', cellB, rfl, h1, h2, h3⟩, hd⟩
  · have hstatic : methM.isStatic = true := Cond.static_spec hnamed hmethM (hts _ hst)
    have hd' : decode c.code pc = .ok (.invokestatic idx, 3) := by rw [hb]; exact hd
    rcases hlk with hlk | ⟨host, hlk⟩
    · obtain ⟨vm₁, X₁, hstep₁⟩ := X.invokestatic hx hown (hts _ hlk) hnamed hmethM hstatic hkP hinitP ⟨hds.1, hds.2.1⟩ (g := F0 m pc ls (vs.reverse ++ rest)) rfl (argsL := vs) (rest := rest) (hl.trans hnp.symm) rfl hd'
      exact fin vm₁ _ hd' X₁ hstep₁
    · obtain ⟨vm₁, X₁, hstep₁⟩ := X.invokestaticNest hx hown (va_Nw.use rfl (hN _ hlk)) hnamed hmethM hstatic hkP hinitP ⟨hds.1, hds.2.1⟩ (g := F0 m pc ls (vs.reverse ++ rest)) rfl (argsL := vs) (rest := rest) (hl.trans hnp.symm) rfl hd'
      exact fin vm₁ _ hd' X₁ hstep₁
  · have hd' : decode c.code pc = .ok (.invokevirtual idx, 3) := by rw [hb]; exact hd
    have hl2 : vs'.length = methM.sig.parameters.length := by rw [hnp]; simpa using hl
    obtain ⟨mk', methM', hnamed', hmethM', hstM, habM⟩ := Cond.instanceMethod_spec (hts _ hin)
    cases hnamed.symm.trans hnamed'
    cases hmethM.symm.trans hmethM'
    obtain ⟨c2, r2, m2, q1, q2, q3, q4, kP2, hkP2, hkPi⟩ := Cond.selects_spec (hts _ hse)
    cases h3.symm.trans q1
    cases (State.methodFound?_of_named hnamed ⟨hds.1, hds.2.1⟩).symm.trans q2
    cases hnamed.symm.trans q3
    have hselP : selectMethod e.platform s.vm cellB.cls mk = .method mk := by rw [Launch.admits_selectMethod X.admits]; exact q4
    have es : ((Value.ref a :: vs').reverse ++ rest) = vs'.reverse ++ .ref a :: rest := by simp
    rw [es] at fin ⊢
    rcases hlk with hlk | ⟨host, hlk⟩
    · obtain ⟨vm₁, X₁, hstep₁⟩ := X.invokevirtual hx hown (hts _ hlk) hnamed hmethM hstM hkP2 hkPi ⟨hds.1, hds.2.1⟩ (a := a) (cell := cellB) (by rw [hT]; exact h1) (fun z hz => by rw [hz] at h2; cases h2) hselP hmethM habM hkP2 hkPi (g := F0 m pc ls (vs'.reverse ++ .ref a :: rest)) rfl (argsL := vs') (rest := rest) hl2 rfl hd'
      exact fin vm₁ _ hd' X₁ hstep₁
    · obtain ⟨vm₁, X₁, hstep₁⟩ := X.invokevirtualNest hx hown (va_Nw.use rfl (hN _ hlk)) hnamed hmethM hstM hkP2 hkPi ⟨hds.1, hds.2.1⟩ (a := a) (cell := cellB) (by rw [hT]; exact h1) (fun z hz => by rw [hz] at h2; cases h2) hselP hmethM habM hkP2 hkPi (g := F0 m pc ls (vs'.reverse ++ .ref a :: rest)) rfl (argsL := vs') (rest := rest) hl2 rfl hd'
      exact fin vm₁ _ hd' X₁ hstep₁
/-- a class of a handler that may not be resolved yet -/
theorem sm_go_cls {e : Env} {s : State} {f : JFrame} {a : Addr} {x : ExceptionTableEntry} {t : List ExceptionTableEntry} {c : ClassId} {cell : Cell} {vm' : Vm} (hx : covers x f.pc = true) (h0 : x.catchType ≠ 0)
    (hg : (Jvm.resolveClass f.method.cls x.catchType).Gives e.toSetting s.vm (.ok c) vm') (hsz : vm'.classes.size ≤ s.vm.classes.size) (hcell : s.heap[a]? = some cell) (hobj : ∀ k, cell.vm ≠ .statics k)
    (hk : ∃ k, vm'.classes[cell.cls]? = some k) (hc : ∃ k, vm'.classes[c]? = some k) (Q : Handler → Pre) (E : CtlPost) (d : Bool) (acts : List Action) :
    wp (findHandler.go f a (x :: t)) Q E e d acts s ↔ if vm'.assignable cell.cls c = true then Q (.found x.handlerPc) d acts (s.setVm vm') else wp (findHandler.go f a t) Q E e d acts (s.setVm vm') := by
  simp only [covers] at hx
  obtain ⟨ha, ht⟩ := hg.op (op := VmOp.resolveClass f.method.cls x.catchType) rfl
  have hcell' : (s.setVm vm').heap[a]? = some cell := hcell
  have hvm : (s.setVm vm').vm = vm' := rfl
  cases hfit : vm'.assignable cell.cls c <;>
    simp [findHandler.go, hx, h0, ha, ht, hsz, hcell, hobj, hk, hc, hfit, hvm, VmOp.dirties, VmOp.acts]
/-- a handler is found, at warmer tables -/
def sm_Fd (e : Env) (s : State) (f : JFrame) (a : Addr) (pc : Nat) (vm' : Vm) : Prop := ∀ (Q : Handler → Pre) (E : CtlPost) (d : Bool) (acts : List Action), wp (findHandler f a) Q E e d acts s ↔ Q (.found pc) d acts (s.setVm vm')
theorem sm_stepCatch {e : Env} {s : State} {a : Addr} {f : JFrame} {r : List Frame} {pc : Nat} {vm' : Vm} (hfind : sm_Fd e s f a pc vm') :
    (stepThrowing e s a (.java f :: r)).Is ((s.setVm vm').setFrames (.java { f with pc := pc, stack := [.ref a] } :: r)) [] := by
  simp only [stepThrowing, searchFrame, vmDo]
  generalize hr : Sem.go _ e false [] s = res
  obtain ⟨as, rfl, ha⟩ := Sem.eq_ok_of hr (a := Handler.found pc) (s' := s.setVm vm') (acts' := []) (by simp [hfind _ _ _ _])
  exact ⟨rfl, ha⟩
theorem sm_caught {tb : Tables} {e : Env} {s target : State} {g : JFrame} {c : Code} {below : List Frame} {a : Addr} {vm' : Vm} (h : At s g.method c below) {pc : Nat} (hfind : sm_Fd e ((s.setTop g).pushFrame (.throwing a)) g a pc vm')
    (hrest : Steps tb e below ((s.setVm vm').setTop { g with pc := pc, stack := [.ref a] }) target) :
    Steps tb e below ((s.setTop g).pushFrame (.throwing a)) target := by
  obtain ⟨hgo, hw⟩ := h.throwing a
  refine Steps.head hgo hw ?_
  rw [stepThread_throwing (frames_entered h.top _), (sm_stepCatch (s := (s.setTop g).pushFrame (.throwing a)) hfind).1]
  obtain ⟨g₀, hg⟩ := Option.isSome_iff_exists.mp h.top
  obtain ⟨r, hr⟩ := State.topJava?_eq_some.mp hg
  have hr' : (s.setVm vm').frames = .java g₀ :: r := hr
  rw [State.setTop_of_frames _ hr'] at hrest
  have es : ((((s.setTop g).pushFrame (.throwing a)).setVm vm').setFrames (.java { g with pc := pc, stack := [.ref a] } :: s.frames.tail)) = (s.setVm vm').setFrames (.java { g with pc := pc, stack := [.ref a] } :: r) := by
    rw [hr, State.pushFrame, State.setTop_of_frames _ hr, State.setFrames_setFrames]
    show ((s.setVm vm').setFrames _).setFrames _ = _
    rw [State.setFrames_setFrames]
    rfl
  rw [es]
  exact hrest
end SMU
section SMV
variable {p : Program} {l : Launch} {e : Env} {R : Room} {s : State} {m : MethodId} {args : Array Value} {below : List Frame} {meth : Method} {c : Code} {locs : List Loc} {cells slots : Nat}
theorem sm_asg_refl (vm : Vm) (c : ClassId) : vm.assignable c c = true := by
  show vm.assignableAux (255 + 1) c c = true
  rw [Vm.assignableAux]
  simp
/-- the search through handlers, each by the number of its class among XC -/
theorem sm_find {XC : Nat → String} {own : String} {g : JFrame} {x : Nat} {a : Addr} {cell : Cell} (hl : l.admits e) (hown : s.vm.findClass own = some g.method.cls) (hobj : cell.vm.isStatics = false) (hcls : s.vm.findClass (XC x) = some cell.cls) (hx2 : x < 2) (hNC : ∀ i j, i < 2 → j < 2 → i ≠ j → ∀ c t, s.vm.findClass (XC i) = some c → s.vm.findClass (XC j) = some t → s.vm.assignable c t = false) :
    ∀ (hs : List (ExceptionTableEntry × Nat)), (∀ q ∈ hs, covers q.1 g.pc = true ∧ q.1.catchType ≠ 0 ∧ (Cond.classLink own q.1.catchType (XC q.2)).before args s = true ∧ q.2 < 2) → ∀ hpc, (hs.find? (fun q => q.2 == x)).map (fun q => q.1.handlerPc) = some hpc →
      ∀ V : State, V.heap[a]? = some cell → s.WarmedH V.vm → ∃ vm', s.WarmedH vm' ∧ ∀ (Q : Handler → Pre) (E : CtlPost) (d : Bool) (acts : List Action), wp (findHandler.go g a (hs.map (fun q => q.1))) Q E e d acts V ↔ Q (.found hpc) d acts (V.setVm vm') := by
  intro hs
  induction hs with
  | nil => intro _ hpc h; cases h
  | cons q r ih =>
    intro hq hpc hf V hV hW
    obtain ⟨h1, h2, h3, hq2⟩ := hq q List.mem_cons_self
    have hpl : e.platform.magicAccessors = ({} : Platform).magicAccessors := by rw [hl.platform]
    obtain ⟨cT, hcT, hcl⟩ := Cond.classLink_spec hown h3 e.platform hpl
    obtain ⟨dk, _, _, kt, hd, _, _, _, _, hkt, _, hopen⟩ := hcl.here
    have hcl₀ := hW.classLinks hcl
    have hW' : s.WarmedH (V.vm.noted g.method.cls q.1.catchType (.cls cT)) := hW.noted hd hopen (State.rightAt_cls hcl)
    obtain ⟨ks, hks⟩ := Vm.classAt_of_findClass hcls
    obtain ⟨ks', hks', -⟩ := hW'.alike.2.2 _ _ hks
    obtain ⟨kt', hkt', -⟩ := hW'.alike.2.2 _ _ hkt
    have key := fun (Q : Handler → Pre) (E : CtlPost) (d : Bool) (acts : List Action) => sm_go_cls (e := e) (s := V) (f := g) (a := a) (x := q.1) (t := r.map (fun q => q.1)) (cell := cell) h1 h2 (resolveClass_links e.toSetting hcl₀) (by rw [Vm.size_note]; exact Nat.le_refl _) hV (VmData.ne_statics_of hobj) ⟨ks', hks'⟩ ⟨kt', hkt'⟩ Q E d acts
    have hal : (V.vm.noted g.method.cls q.1.catchType (.cls cT)).assignable cell.cls cT = s.vm.assignable cell.cls cT := hW'.alike.assignable ..
    by_cases hx : q.2 = x
    · subst hx
      rw [List.find?_cons_of_pos (by simp)] at hf
      cases hf
      cases hcls.symm.trans hcT
      refine ⟨_, hW', fun Q E d acts => ?_⟩
      rw [List.map_cons, key Q E d acts, if_pos (by rw [hal]; exact sm_asg_refl _ _)]
    · rw [List.find?_cons_of_neg (by simpa using hx)] at hf
      obtain ⟨vm', hW2, h4⟩ := ih (fun z hz => hq z (List.mem_cons_of_mem _ hz)) hpc hf (V.setVm (V.vm.noted g.method.cls q.1.catchType (.cls cT))) hV hW'
      refine ⟨vm', hW2, fun Q E d acts => ?_⟩
      rw [List.map_cons, key Q E d acts, if_neg (by rw [hal, hNC x q.2 hx2 hq2 (Ne.symm hx) _ _ hcls hcT]; decide), h4 Q E d acts]
      rfl
end SMV
end
section
/-! ===== a throwing call, in the small machine's words ===== -/
def sm_en (q : Nat × Nat × Nat × Nat) : ExceptionTableEntry := ⟨q.1, q.2.1, q.2.2.1, q.2.2.2⟩
/-- where a throw of the number x at pc is caught -/
def sm_Xo (WA : List Cond) (XC : Nat → String) (own : String) (bc : ByteArray) (nL : Nat) (eh : List (Nat × Nat × Nat × Nat)) (pc x pc' q : Nat) : Prop := ∃ (hs : List ((Nat × Nat × Nat × Nat) × Nat)) (hpc : Nat), hs.map (fun z => z.1) = eh ∧
  (∀ z ∈ hs, covers (sm_en z.1) pc = true ∧ z.1.2.2.2 ≠ 0 ∧ Cond.classLink own z.1.2.2.2 (XC z.2) ∈ WA ∧ z.2 < 2) ∧ x < 2 ∧ (hs.find? (fun z => z.2 == x)).map (fun z => z.1.2.2.1) = some hpc ∧ q < nL ∧
  ((decode bc hpc = .ok (.astore q, 2) ∧ pc' = hpc + 2) ∨ ∃ k : Fin 4, k.val = q ∧ decode bc hpc = .ok (.astore_n k, 1) ∧ pc' = hpc + 1)
section SMY
variable {p : Program} {l : Launch} {e : Env} {R : Room} {s : State} {m : MethodId} {args : Array Value} {below : List Frame} {meth : Method} {c : Code} {D : va_G} {cl : List vw_C} {A : Nat → Prop} {cA : Nat → ClassId} {b : Nat} {ad0 ad : Nat → Nat} {n0 C1 S1 pc nL x : Nat} {L : sm_L} {h h1 : sm_H} {XC : Nat → String} {H : Heap} {locs : List Loc} {ls : Array Slot} {rest vs : List Value}
/-- what a throwing callee leaves -/
def sm_Th (p : Program) (l : Launch) (e : Env) (R : Room) (s : State) (m : MethodId) (args : Array Value) (below : List Frame) (meth : Method) (c : Code) (D : va_G) (cl : List vw_C) (cA : Nat → ClassId) (ad : Nat → Nat) (XC : Nat → String) (x : Nat) (h h1 : sm_H) (H : Heap) (locs : List Loc) (cells slots mc ms pc : Nat) (ls : Array Slot) (st0 rest : List Value) : Prop :=
  ∀ T : State, T.heap = H → Stand p l e R s m args below meth c T locs cells slots → ∃ (a : Addr) (st₀ t V : State) (Lc : List Loc), st₀.heap = H ∧ Stand p l e R s m args below meth c V (locs ++ Lc) (cells + mc) (slots + ms) ∧ V.heap = t.heap ∧ V.vm = t.vm ∧ sm_Qt D cl cA (va_A (sm_w cA ad h) H.size) ad h.1.length XC x h1 a st₀ t ∧ (∀ q ∈ Lc, va_A (sm_w cA ad h) H.size q.base) ∧
      ∀ target, Steps p.tables e below ((V.setTop (F0 m pc ls rest)).pushFrame (.throwing a)) target → Steps p.tables e below (T.setTop (F0 m pc ls st0)) target
theorem sm_Th_mem {t : State} {Lc : List Loc} {ad' : Nat → Nat} (hA : ∀ q, s.heap.size ≤ q → A q) (hD : va_D A (sm_w cA ad h)) (hS : va_S A s.heap H locs) (hF1 : H.size ≤ t.heap.size) (hF2 : ∀ q : Nat, q < H.size → ¬ va_A (sm_w cA ad h) H.size q → t.heap[q]? = H[q]?) (hLc : ∀ q ∈ Lc, va_A (sm_w cA ad h) H.size q.base) (hD1 : va_D (va_A (sm_w cA ad h) H.size) (sm_w cA ad' h1)) :
    va_D A (sm_w cA ad' h1) ∧ va_S A s.heap t.heap (locs ++ Lc) := by
  have hAA : ∀ q, va_A (sm_w cA ad h) H.size q → A q := by
    intro q hq
    rcases hq with ⟨k, e, hq⟩ | hq
    · exact hD.2 k (q, e) hq
    · exact hA q (Nat.le_trans hS.1 hq)
  refine ⟨hD1.weaken fun _ q _ hq => hAA q.1 hq, Nat.le_trans hS.1 hF1, fun q hq1 hq2 => ?_, fun q hq => ?_⟩
  · rw [hF2 q (Nat.lt_of_lt_of_le hq1 hS.1) (fun z => hq2 (hAA q z))]
    exact hS.2.1 q hq1 hq2
  · rcases List.mem_append.mp hq with hq | hq
    · exact hS.2.2 q hq
    · exact hAA _ (hLc q hq)
theorem sm_y_out (hA : ∀ q, s.heap.size ≤ q → A q) (hn0 : n0 ≤ h.1.length) (hle : h.2.2.2.1 ≤ C1 ∧ h.2.2.2.2 ≤ S1) (hge : h1.2.2.2.1 ≤ h.2.2.2.1 ∧ h1.2.2.2.2 ≤ h.2.2.2.2 ∧ h.1.length ≤ h1.1.length) (e1 : ∀ k, ¬ (n0 ≤ k ∧ k < h.1.length) → ad k = ad0 k) (hD : va_D A (sm_w cA ad h)) (hS : va_S A s.heap H locs) (hlocks : meth.locks = false) (hno : c.exceptionTable.toList = []) {st0 : List Value}
    (hth : sm_Th p l e R s m args below meth c D cl cA ad XC x h h1 H locs (C1 - h.2.2.2.1) (S1 - h.2.2.2.2) (h.2.2.2.1 - h1.2.2.2.1) (h.2.2.2.2 - h1.2.2.2.2) pc ls st0 rest) :
    W p l e R s m args below meth c H locs (C1 - h.2.2.2.1) (S1 - h.2.2.2.2) (sm_Q D cl cA b XC below args s A ad0 n0 C1 S1 (.inr x) h1) (F0 m pc ls st0) := by
  intro T hT X
  obtain ⟨a, st₀, t, V, Lc, h0, XV, ev, em, ⟨⟨ad', ea, hP1, hD1⟩, ⟨hF1, hF2⟩, hcell⟩, hLc, hst⟩ := hth T hT X
  rw [h0] at hF1 hF2
  obtain ⟨g1, g2⟩ := sm_Th_mem hA hD hS hF1 hF2 hLc hD1
  obtain ⟨w1, w2, w3, w4, w5⟩ := XV.leaveThrown a (g := F0 m pc ls rest) rfl rfl rfl (by rw [hno]; intro z hz; cases hz) hlocks
  refine ⟨V.setFrames (.throwing a :: below), hst _ w1, a, w2, w3, ⟨⟨ad', fun k hk => ?_, by show va_P D cl (sm_w cA ad' h1) V.heap; rw [ev]; exact hP1, g1⟩, ?_, ?_⟩, w4, locs ++ Lc, ?_, g2.2.2⟩
  · by_cases hk2 : k < n0
    · rw [ea k (by omega), e1 k (by omega)]
    · rw [ea k (by omega), e1 k (by omega)]
  · exact ⟨by show s.heap.size ≤ V.heap.size; rw [ev]; exact g2.1, fun q hq1 hq2 => by show V.heap[q]? = _; rw [ev]; exact g2.2.1 q hq1 hq2⟩
  · obtain ⟨cell, k1, k2, k3⟩ := hcell
    exact ⟨cell, by show V.heap[a]? = _; rw [ev]; exact k1, k2, by show V.vm.findClass _ = _; rw [em]; exact k3⟩
  · have e9 : C1 - h1.2.2.2.1 = C1 - h.2.2.2.1 + (h.2.2.2.1 - h1.2.2.2.1) := by omega
    have e8 : S1 - h1.2.2.2.2 = S1 - h.2.2.2.2 + (h.2.2.2.2 - h1.2.2.2.2) := by omega
    rw [e9, e8]
    exact w5
theorem sm_y_in (hx : p.tables.exec = Jvm.exec) {cc : ByteArray} (hb : c.code = cc) {own : String} (hown : s.vm.findClass own = some m.cls) {WA : List Cond} (hts : ∀ w ∈ WA, w.before args s = true) (hNC : ∀ i j, i < 2 → j < 2 → i ≠ j → ∀ c t, s.vm.findClass (XC i) = some c → s.vm.findClass (XC j) = some t → s.vm.assignable c t = false)
    (hA : ∀ q, s.heap.size ≤ q → A q) (hn0 : n0 ≤ h.1.length) (hle : h.2.2.2.1 ≤ C1 ∧ h.2.2.2.2 ≤ S1) (hge : h1.2.2.2.1 ≤ h.2.2.2.1 ∧ h1.2.2.2.2 ≤ h.2.2.2.2 ∧ h.1.length ≤ h1.1.length) (e1 : ∀ k, ¬ (n0 ≤ k ∧ k < h.1.length) → ad k = ad0 k) (hD : va_D A (sm_w cA ad h)) (hS : va_S A s.heap H locs) (hls : sm_l b ad ls nL L) (hok : sm_ok2 L [] h h1 = true)
    {eh : List (Nat × Nat × Nat × Nat)} (het : c.exceptionTable.toList = eh.map sm_en) {pc' q : Nat} (hxo : sm_Xo WA XC own cc nL eh pc x pc' q) {st0 : List Value} {Q : State → Prop}
    (hth : sm_Th p l e R s m args below meth c D cl cA ad XC x h h1 H locs (C1 - h.2.2.2.1) (S1 - h.2.2.2.2) (h.2.2.2.1 - h1.2.2.2.1) (h.2.2.2.2 - h1.2.2.2.2) pc ls st0 rest)
    (kk : sm_W p l e R s m args below meth c Q D cl A s.heap nL cA b ad0 n0 C1 S1 pc' (L.set q none) [] h1) :
    W p l e R s m args below meth c H locs (C1 - h.2.2.2.1) (S1 - h.2.2.2.2) Q (F0 m pc ls st0) := by
  intro T hT X
  obtain ⟨a, st₀, t, V, Lc, h0, XV, ev, em, ⟨⟨ad', ea, hP1, hD1⟩, ⟨hF1, hF2⟩, cell, k1, k2, k3⟩, hLc, hst⟩ := hth T hT X
  rw [h0] at hF1 hF2
  obtain ⟨g1, g2⟩ := sm_Th_mem hA hD hS hF1 hF2 hLc hD1
  obtain ⟨hs, hpc, j1, j2, jx, j3, j4, j5⟩ := hxo
  have ga : ∀ k, k < h.1.length → ad' k = ad k := fun k hk => ea k (by omega)
  have gl : sm_l b ad' ls nL L := by
    unfold sm_ok2 at hok
    rw [Bool.or_eq_true] at hok
    rcases hok with hok | hok
    · have hz : h1.1.length = h.1.length := of_decide_eq_true hok
      have : ad' = ad := funext fun k => ea k (by omega)
      subst this
      exact hls
    · unfold sm_wfL at hok
      rw [Bool.and_eq_true] at hok
      exact sm_l_ext hls hok.1 ga
  have hVW : s.WarmedH V.vm := XV.warmed
  have hcls : s.vm.findClass (XC x) = some cell.cls := by rw [← hVW.alike.findClass, em]; exact k3
  have hVm : ((V.setTop (F0 m pc ls rest)).pushFrame (.throwing a)).vm = V.vm := rfl
  have hVh : ((V.setTop (F0 m pc ls rest)).pushFrame (.throwing a)).heap = V.heap := rfl
  obtain ⟨vm', hW2, hfd⟩ := sm_find (args := args) (XC := XC) (own := own) (g := F0 m pc ls rest) (x := x) (a := a) (cell := cell) XV.admits hown k2 hcls jx hNC (hs.map (fun z => (sm_en z.1, z.2))) (by
    intro z hz
    obtain ⟨z', hz', rfl⟩ := List.mem_map.mp hz
    obtain ⟨c1, c2, c3, c4⟩ := j2 z' hz'
    exact ⟨c1, c2, hts _ c3, c4⟩) hpc (by
    rw [List.find?_map, Option.map_map]
    exact j3) ((V.setTop (F0 m pc ls rest)).pushFrame (.throwing a)) (by rw [hVh, ev]; exact k1) (by rw [hVm]; exact hVW)
  have hmeth : ((V.setTop (F0 m pc ls rest)).pushFrame (.throwing a)).vm.method? (F0 m pc ls rest).method = some meth := XV.method'
  have hFd : sm_Fd e ((V.setTop (F0 m pc ls rest)).pushFrame (.throwing a)) (F0 m pc ls rest) a hpc vm' := by
    intro Q E d acts
    rw [W.findHandler_eq hmeth XV.code, het, ← j1, List.map_map]
    have := hfd Q E d acts
    rw [List.map_map] at this
    exact this
  have X2 : Stand p l e R s m args below meth c (V.setVm vm') (locs ++ Lc) (C1 - h.2.2.2.1 + (h.2.2.2.1 - h1.2.2.2.1)) (S1 - h.2.2.2.2 + (h.2.2.2.2 - h1.2.2.2.2)) := XV.noted hW2
  have e9 : C1 - h1.2.2.2.1 = C1 - h.2.2.2.1 + (h.2.2.2.1 - h1.2.2.2.1) := by omega
  have e8 : S1 - h1.2.2.2.2 = S1 - h.2.2.2.2 + (h.2.2.2.2 - h1.2.2.2.2) := by omega
  have go : W p l e R s m args below meth c t.heap (locs ++ Lc) (C1 - h.2.2.2.1 + (h.2.2.2.1 - h1.2.2.2.1)) (S1 - h.2.2.2.2 + (h.2.2.2.2 - h1.2.2.2.2)) Q (F0 m hpc ls [.ref a]) := by
    have fin : ∀ ls' : Array Slot, lv_has ls' nL ((q, Value.ref a) :: (sm_lv b ad' L).filter (fun z => !(z.1 == q) && !(z.1 + 1 == q && z.2.category == 2))) → W p l e R s m args below meth c t.heap (locs ++ Lc) (C1 - h.2.2.2.1 + (h.2.2.2.1 - h1.2.2.2.1)) (S1 - h.2.2.2.2 + (h.2.2.2.2 - h1.2.2.2.2)) Q (F0 m pc' ls' []) := by
      intro ls' hl'
      have k9 := kk ad' t.heap (locs ++ Lc) ls' (fun k hk => by
        by_cases hk2 : k < n0
        · rw [ea k (by omega), e1 k (by omega)]
        · rw [ea k (by omega), e1 k (by omega)]) hP1 g1 g2 (sm_l_un gl hl')
      rw [e9, e8] at k9
      exact k9
    rcases j5 with ⟨hd, rfl⟩ | ⟨k, rfl, hd, rfl⟩
    · exact lv_astore hx hb hd (sm_l_has gl) j4 rfl fin
    · exact lv_astore_n hx hb hd rfl (sm_l_has gl) j4 rfl fin
  obtain ⟨t2, a1, b1⟩ := go (V.setVm vm') ev X2
  have hAt : At V (F0 m pc ls rest).method c below := XV.here
  exact ⟨t2, hst t2 (sm_caught hAt hFd a1), b1⟩
end SMY
end
section
/-! ===== callees with handlers; callees that throw, by the main theorem's word ===== -/
theorem sm_runSW {p : Program} {l : Launch} {e : Env} {R : Room} {s : State} {m : MethodId} {args : Array Value} {below : List Frame} {meth : Method} {c : Code} {H : Heap} {locs : List Loc} {cells slots mc ms : Nat} {cc bytes : ByteArray} {nL maxL n idx : Nat} {ret : Option FieldType} {hh : List (Nat × Nat × Nat × Nat)} {WA : List Cond} {rm : Room} {Pc : Array Value → State → Prop} {Qc : Array Value → State → Outcome → State → Prop} {free : Addr → Prop} {own : String} {y : MethodName} {vs rest : List Value} {pc : Nat} {ls : Array Slot}
    (hx : p.tables.exec = Jvm.exec) (hb : c.code = cc) (hml : c.maxLocals = nL) (hown : s.vm.findClass own = some m.cls) (hts : ∀ w ∈ WA, w.before args s = true) (hG : ∀ w ∈ WA, goodWord w = true)
    (hM : Met l y (Cond.codeWith y bytes maxL ret hh :: WA) rm Pc Qc mc ms free) (hcode : Cond.codeWith y bytes maxL ret hh ∈ WA) (hrc : rm.cells = mc) (hrs : rm.slots = ms) (hini : Cond.initialized y.cls ∈ WA) (hlk : Cond.methodLink own idx y ∈ WA)
    (hds : y.cls ≠ "java/lang/invoke/MethodHandle" ∧ y.cls ≠ "java/lang/invoke/VarHandle" ∧ (parseMethodDescriptor y.desc).map (fun d => d.parameters.length) = some n) (hR : rm.frames + 1 ≤ R.frames ∧ 8 + (maxL + 11) + rm.locals ≤ R.locals)
    (hbl : FrameBlind Pc) (hpre : ∀ U : State, U.heap = H → s.WarmedH U.vm → Pc vs.toArray U) (hsize : ls.size = nL) (hW : (rest.map fun v => v.category).sum ≤ 8) (hf : cells + mc ≤ R.cells ∧ slots + ms ≤ R.slots)
    (hl : vs.length = n) (hst : Cond.static y ∈ WA) (hd : decode cc pc = .ok (.invokestatic idx, 3)) :
    va_Run p l e R s m args below meth c H locs cells slots mc ms (F0 m pc ls (vs.reverse ++ rest)) rest (Qc vs.toArray) free := by
  have hgd : GoodIn WA (Cond.codeWith y bytes maxL ret hh :: WA) := sm_good hG (fun _ h => h) hcode
  have hK : Back l R p e below s args y 3 8 (PreOf R mc ms Pc) (PostOf Qc mc ms free) := va_backW (hh := hh) (bytes := bytes) (maxL := maxL) (ret := ret) hM hbl hrc hrs hR.1 hR.2 (pay_in hts hgd) List.mem_cons_self (fun a' U hWU => word_at hWU (good_of_word (hG _ hini)) (hts _ hini))
  obtain ⟨mk, methM, cM, hnamed, hmethM, -, -, -, -, -, -, hsigM⟩ := Cond.codeWith_spec (hts _ hcode)
  obtain ⟨kP, hkP, -⟩ := className_of_methodNamed hnamed
  have hinitP : kP.init = .initialized := Cond.initialized_spec (findClass_of_methodNamed hnamed) hkP (hts _ hini)
  have hstatic : methM.isStatic = true := Cond.static_spec hnamed hmethM (hts _ hst)
  have hnp : methM.sig.parameters.length = n := by
    have h2 := hds.2.2
    rw [hsigM] at h2
    exact Option.some.inj h2
  have hd' : decode c.code pc = .ok (.invokestatic idx, 3) := by rw [hb]; exact hd
  intro T hT X
  obtain ⟨vm₁, X₁, hstep₁⟩ := X.invokestatic hx hown (hts _ hlk) hnamed hmethM hstatic hkP hinitP ⟨hds.1, hds.2.1⟩ (g := F0 m pc ls (vs.reverse ++ rest)) rfl (argsL := vs) (rest := rest) (hl.trans hnp.symm) rfl hd'
  obtain ⟨v, ⟨U', l2, c2, s2⟩, X', hpost, hsteps⟩ := hK m meth c ⟨T.setVm vm₁, locs, cells, slots⟩ (F0 m pc ls rest) (.invokestatic idx) mk vs.toArray X₁ rfl (hsize.trans hml.symm) hd' (by show 2 * 0 + _ ≤ 8; have h9 : ((F0 m pc ls rest).stack.map fun v => v.category).sum = (rest.map fun v => v.category).sum := rfl; omega) (X₁.named hnamed) ⟨hf.1, hf.2, hpre _ hT X₁.warmed⟩
  obtain ⟨g', mk', t, L, e1, e2, hq, h1, hL, h2, h3⟩ := hpost
  dsimp only [Pt.U, Pt.locs, Pt.cells, Pt.slots] at X' e1 e2 h1 h2 h3 hsteps
  subst h1; subst h2; subst h3
  exact ⟨v, (T.setVm vm₁).calling g' mk' vs.toArray, t, U', L, hT, X', hL, e1, e2, hq, fun target h => hstep₁ _ (fun acts => by rw [doInvoke_state]; exact hsteps.trans h)⟩
section SMZ
variable {l : Launch} {D : va_G} {cl : List vw_C} {cA : Nat → ClassId} {b : Nat} {WA NW : List Cond} {T : sm_T} {ok : Nat → Nat → Bool} {tyN : List FieldType} {AO : List String} {bc : Nat → ByteArray} {nm : Nat → MethodName} {X : Nat × (Nat → Int32)} {fx : Nat → Prop} {KT : State → Prop} {XC : Nat → String} {eh : Nat → List (Nat × Nat × Nat × Nat)} {n : Nat}
theorem sm_metW (hP : sm_Pn l D cl cA b WA NW T ok tyN AO bc nm X fx KT XC eh n) {d lw z : Nat} {vs : List Value} {h h' : sm_H} {v : Option Value} (hrun : sm_run T X ok n d lw z 0 (sm_ent (sm_nL T z).1 vs) [] h = some (.inl v, h')) (hvs : vs.all sm_c1 = true) (hlen : vs.length ≤ (sm_nL T z).1) (hpl : plainName (nm z).cls = true) (ad : Nat → Nat) (sz : Nat) :
    Met l (nm z) (Cond.codeWith (nm z) (bc z) (sm_nL T z).1 (sm_rt T z) (eh z) :: WA) { frames := d, cells := h.2.2.2.1 - h'.2.2.2.1, slots := h.2.2.2.2 - h'.2.2.2.2, locals := lw } (sm_Pc D cl cA b tyN NW AO KT fx ad sz vs h) (sm_Qc D cl cA b (va_A (sm_w cA ad h) sz) ad h.1.length v h') (h.2.2.2.1 - h'.2.2.2.1) (h.2.2.2.2 - h'.2.2.2.2) (va_A (sm_w cA ad h) sz) := by
  refine va_MetW (cc := bc z) (maxL := (sm_nL T z).1) (ret := sm_rt T z) (hh := eh z) hpl rfl ?_
  intro p e s m args below meth c s₁ B hml hv
  obtain ⟨rfl, hsz, hPw, hDw, hK, hfx⟩ := hv
  have hts := atoms_spec (ws := Cond.codeWith (nm z) (bc z) (sm_nL T z).1 (sm_rt T z) (eh z) :: WA) B.pre
  have hcode := hts _ List.mem_cons_self
  have hown : s.vm.findClass (nm z).cls = some m.cls := findClass_of_methodNamed B.named
  have hnm : meth.name = (nm z).name := (name_of_methodNamed B.named B.method).1
  obtain ⟨m9, meth9, c9, hn9, hm9, hc9, -, -, ht9, -⟩ := Cond.codeWith_spec hcode
  cases B.named.symm.trans hn9
  cases B.method.symm.trans hm9
  cases (Stand.of_body B).code.symm.trans hc9
  have het : c.exceptionTable.toList = (eh z).map (fun q => ⟨q.1, q.2.1, q.2.2.1, q.2.2.2⟩) := by
    rw [← ht9, List.map_map]
    exact (List.map_id' c.exceptionTable.toList).symm
  subst hsz
  rw [lg_entry_eq]
  have W0 := hP d lw z 0 (sm_ent (sm_nL T z).1 vs) [] h (.inl v) h' hrun p e { frames := d, cells := h.2.2.2.1 - h'.2.2.2.1, slots := h.2.2.2.2 - h'.2.2.2.2, locals := lw } s m (vs.map (sm_v b ad)).toArray below meth c (va_A (sm_w cA ad h) s.heap.size) ad h.1.length h.2.2.2.1 h.2.2.2.2 B.exec B.bytes hml B.returns B.notSynchronized hown hnm het (fun w hw => hts w (List.mem_cons_of_mem _ hw)) hK hfx (fun q hq => Or.inr hq) (Nat.le_refl _) ⟨Nat.le_refl _, Nat.le_refl _⟩ ⟨Nat.le_refl _, Nat.le_refl _⟩ (Nat.le_refl _) (Nat.le_refl _)
  have W1 := W0 ad s.heap [] _ (fun _ _ => rfl) hPw hDw.self va_S.rf (sm_entry hvs hlen)
  rw [Nat.sub_self, Nat.sub_self] at W1
  exact W1
theorem sm_metT (hP : sm_Pn l D cl cA b WA NW T ok tyN AO bc nm X fx KT XC eh n) {d lw z x : Nat} {vs : List Value} {h h' : sm_H} (hrun : sm_run T X ok n d lw z 0 (sm_ent (sm_nL T z).1 vs) [] h = some (.inr x, h')) (hvs : vs.all sm_c1 = true) (hlen : vs.length ≤ (sm_nL T z).1) (hpl : plainName (nm z).cls = true) (hez : eh z = []) (ad : Nat → Nat) (sz : Nat) :
    sm_MetT l (nm z) (Cond.code (nm z) (bc z) (sm_nL T z).1 (sm_rt T z) :: WA) { frames := d, cells := h.2.2.2.1 - h'.2.2.2.1, slots := h.2.2.2.2 - h'.2.2.2.2, locals := lw } (sm_Pc D cl cA b tyN NW AO KT fx ad sz vs h) (fun st a t => sm_Qt D cl cA (va_A (sm_w cA ad h) sz) ad h.1.length XC x h' a st t) (h.2.2.2.1 - h'.2.2.2.1) (h.2.2.2.2 - h'.2.2.2.2) (va_A (sm_w cA ad h) sz) := by
  refine sm_MetT_ofW (cc := bc z) (maxL := (sm_nL T z).1) (ret := sm_rt T z) hpl rfl ?_
  intro p e s m args below meth c s₁ B hml hv
  obtain ⟨rfl, hsz, hPw, hDw, hK, hfx⟩ := hv
  have hts := atoms_spec (ws := Cond.code (nm z) (bc z) (sm_nL T z).1 (sm_rt T z) :: WA) B.pre
  have hcode := hts _ List.mem_cons_self
  have hown : s.vm.findClass (nm z).cls = some m.cls := findClass_of_methodNamed B.named
  have hnm : meth.name = (nm z).name := (name_of_methodNamed B.named B.method).1
  have hemp := B.noHandlers hcode
  have het : c.exceptionTable.toList = (eh z).map (fun q => ⟨q.1, q.2.1, q.2.2.1, q.2.2.2⟩) := by
    rw [hez]
    have h0 : c.exceptionTable.size = 0 := by simpa [Array.isEmpty] using hemp
    exact List.eq_nil_of_length_eq_zero (by simpa using h0)
  subst hsz
  rw [lg_entry_eq]
  have W0 := hP d lw z 0 (sm_ent (sm_nL T z).1 vs) [] h (.inr x) h' hrun p e { frames := d, cells := h.2.2.2.1 - h'.2.2.2.1, slots := h.2.2.2.2 - h'.2.2.2.2, locals := lw } s m (vs.map (sm_v b ad)).toArray below meth c (va_A (sm_w cA ad h) s.heap.size) ad h.1.length h.2.2.2.1 h.2.2.2.2 B.exec B.bytes hml B.returns B.notSynchronized hown hnm het (fun w hw => hts w (List.mem_cons_of_mem _ hw)) hK hfx (fun q hq => Or.inr hq) (Nat.le_refl _) ⟨Nat.le_refl _, Nat.le_refl _⟩ ⟨Nat.le_refl _, Nat.le_refl _⟩ (Nat.le_refl _) (Nat.le_refl _)
  have W1 := W0 ad s.heap [] _ (fun _ _ => rfl) hPw hDw.self va_S.rf (sm_entry hvs hlen)
  rw [Nat.sub_self, Nat.sub_self] at W1
  exact W1
end SMZ
end
section
section SMB
variable {l : Launch} {D : va_G} {cl : List vw_C} {cA : Nat → ClassId} {b : Nat} {WA NW : List Cond} {T : sm_T} {ok : Nat → Nat → Bool} {tyN : List FieldType} {AO : List String} {bc : Nat → ByteArray} {nm : Nat → MethodName} {X : Nat × (Nat → Int32)} {fx : Nat → Prop} {KT : State → Prop} {XC : Nat → String} {eh : Nat → List (Nat × Nat × Nat × Nat)}
/-- a method that lets a throw out has no handlers -/
theorem sm_run_thr (XN : ∀ z pc x, sm_cat T z pc x = some none → eh z = []) : ∀ (n d lw y pc : Nat) (L : sm_L) (S : List Value) (h : sm_H) (x : Nat) (h' : sm_H), sm_run T X ok n d lw y pc L S h = some (.inr x, h') → eh y = [] := by
  intro n
  induction n with
  | zero => intro d lw y pc L S h x h' hr; cases hr
  | succ n ih =>
    intro d lw y pc L S h x h' hr
    unfold sm_run at hr
    split at hr
    · cases hr
    · next i hi =>
      split at hr
      · cases hq : sm_ret (sm_nL T y).2.1 i S with
        | none => rw [hq] at hr; cases hr
        | some v => rw [hq] at hr; cases hr
      · split at hr
        · split at hr
          · exact ih _ _ _ _ _ _ _ _ _ hr
          · cases hr
        · split at hr
          · cases hr
          · split at hr
            · split at hr
              · split at hr
                · exact ih _ _ _ _ _ _ _ _ _ hr
                · cases hr
              · cases hr
            · split at hr
              · split at hr
                · split at hr
                  · exact ih _ _ _ _ _ _ _ _ _ hr
                  · cases hr
                · split at hr
                  · cases hr
                  · split at hr
                    · cases hr
                    · next hcat => exact XN _ _ _ hcat
                    · split at hr
                      · exact ih _ _ _ _ _ _ _ _ _ hr
                      · cases hr
                · cases hr
              · cases hr
set_option maxHeartbeats 4000000 in
theorem sm_all (TB : sm_Tab T ok cl WA NW tyN AO bc nm) (hM : sm_Mv NW b X fx KT) (hG : ∀ w ∈ WA, goodWord w = true) (CB : ∀ y idx k z w, sm_cal T y idx = some (k, z, w) → sm_Go cl WA NW nm (sm_cw T bc nm eh) T y idx k z w)
    (CW : ∀ y idx k z w, sm_cal T y idx = some (k, z, w) → eh z ≠ [] → k = 3 ∧ Cond.methodLink (nm y).cls idx (nm z) ∈ WA) (XN : ∀ z pc x, sm_cat T z pc x = some none → eh z = []) (XB : ∀ y pc x pc' q, sm_cat T y pc x = some (some (pc', q)) → sm_Xo WA XC (nm y).cls (bc y) (sm_nL T y).1 (eh y) pc x pc' q)
    (hKN : ∀ U, KT U → ∀ i j, i < 2 → j < 2 → i ≠ j → ∀ c t, U.vm.findClass (XC i) = some c → U.vm.findClass (XC j) = some t → U.vm.assignable c t = false) (TE : ∀ z vs h r, sm_thr T z vs h = some r → eh z = [])
    (hTh : ∀ (z : Nat) (vs : List Value) (h : sm_H) (x kc ks : Nat), sm_thr T z vs h = some (x, kc, ks) → vs.all sm_c1 = true → vs.length ≤ (sm_nL T z).1 → ∀ (d lw : Nat), kc ≤ h.2.2.2.1 → ks ≤ h.2.2.2.2 → 6 ≤ d → 100 ≤ lw → ∀ (ad : Nat → Nat) (sz : Nat),
      sm_MetT l (nm z) (Cond.code (nm z) (bc z) (sm_nL T z).1 (sm_rt T z) :: WA) { frames := d, cells := h.2.2.2.1 - (h.2.2.2.1 - kc), slots := h.2.2.2.2 - (h.2.2.2.2 - ks), locals := lw } (sm_Pc D cl cA b tyN NW AO KT fx ad sz vs h) (fun st a t => sm_Qt D cl cA (va_A (sm_w cA ad h) sz) ad h.1.length XC x (h.1, h.2.1, h.2.2.1, h.2.2.2.1 - kc, h.2.2.2.2 - ks) a st t) (h.2.2.2.1 - (h.2.2.2.1 - kc)) (h.2.2.2.2 - (h.2.2.2.2 - ks)) (va_A (sm_w cA ad h) sz)) : ∀ n, sm_Pn l D cl cA b WA NW T ok tyN AO bc nm X fx KT XC eh n := by
  intro n
  induction n with
  | zero => intro d lw y pc L S h o h' hr; cases hr
  | succ n ih =>
    intro d lw y pc L S h o h' hr p e R s m args below meth c A ad0 n0 C1 S1 hx hb hml hret hlk hown hmn het hts hK hfx hA hn0 hle hroom hd hlo
    have hXs : va_X b X.1 X.2 s s.heap := hM.2.2.1 s hK.2.2.2
    have hbf := hfx b hM.2.2.2
    unfold sm_run at hr
    · split at hr
      · cases hr
      · next i hi =>
        split at hr
        · next hisr =>
          cases hv : sm_ret (sm_nL T y).2.1 i S with
          | none => rw [hv] at hr; cases hr
          | some v =>
            rw [hv] at hr
            cases hr
            have hts1 : sm_tsw i = false := by cases i <;> first | rfl | cases hisr
            have hln : sm_len i = 1 := by cases i <;> first | rfl | cases hisr
            exact sm_s_ret (cc := bc y) hx hb (kd := (sm_nL T y).2.1) hret hlk (sm_dec_of TB hi hts1) hln hv
        · split at hr
          · split at hr
            · next pc' L' S' h1 hs =>
              have g1 := sm_i_ge _ hs
              have g2 := sm_run_ge _ _ _ _ _ _ _ _ _ _ hr
              exact sm_sound (r := (pc', L', S', h1)) TB hx hb rfl hown hmn hts hK.2.1 hK.2.2.1 hK.1 hXs hbf.1 hbf.2 hA hn0 hle ⟨by dsimp only; omega, by dsimp only; omega⟩ hi hs (ih d lw y pc' L' S' h1 o h' hr p e R s m args below meth c A ad0 n0 C1 S1 hx hb hml hret hlk hown hmn het hts hK hfx hA (Nat.le_trans hn0 g1.2.2) ⟨Nat.le_trans g1.1 hle.1, Nat.le_trans g1.2.1 hle.2⟩ hroom hd hlo)
            · cases hr
          · next k z w hinv =>
            obtain ⟨idx, hcal, hop⟩ := sm_inv_op hinv
            have hgo := CB y idx k z w hcal
            split at hr
            · cases hr
            · next d =>
              split at hr
              · next hk3 =>
               split at hr
               · next hlw100 =>
                split at hr
                · next pc' L' S' h1 hs =>
                  have g1 := sm_lib_ge _ hs
                  have g2 := sm_run_ge _ _ _ _ _ _ _ _ _ _ hr
                  obtain ⟨t3, t4, t5, htyN⟩ := TB.2.2.2.2.2.2.1
                  refine sm_s_lib (r := (pc', L', S', h1)) (k := k) (z := z) (w := w) (idx := idx) (y := y) (tys := sm_tys cA tyN) hx hb hml hown hts hK.1 (sm_tys_get (by rw [htyN]; rfl)) hgo (by omega) (by omega) ⟨by dsimp only at g1 g2 ⊢; omega, by dsimp only at g1 g2 ⊢; omega⟩ ?_ hs (ih (d + 1) lw y pc' L' S' h1 o h' hr p e R s m args below meth c A ad0 n0 C1 S1 hx hb hml hret hlk hown hmn het hts hK hfx hA (Nat.le_trans hn0 g1.2.2) ⟨Nat.le_trans g1.1 hle.1, Nat.le_trans g1.2.1 hle.2⟩ hroom hd hlo)
                  rcases hop with ⟨rfl, hk⟩ | ⟨rfl, hk⟩ | ⟨rfl, hk⟩
                  · exact ⟨fun h9 => by omega, fun _ => sm_dec_of TB hi rfl⟩
                  · exact ⟨fun h9 => by omega, fun h9 => by omega⟩
                  · exact ⟨fun _ => sm_dec_of TB hi rfl, fun h9 => by omega⟩
                · cases hr
               · cases hr
              · next hk3 =>
                split at hr
                · next hw =>
                  obtain ⟨w1, w2, w3, w4, w5, w6⟩ := hw
                  have hlen : (S.take w).reverse.length = w := by simp; omega
                  have hvs : (S.take w).reverse.all sm_c1 = true := by rw [List.all_reverse]; exact w4
                  obtain ⟨-, -, -, f3, fs, fv, fi⟩ := hgo
                  obtain ⟨flk, fini, fcw, fpl, fds, fw1, f40⟩ := f3 (by omega)
                  split at hr
                  · next v h1 hrun =>
                    obtain ⟨-, hrun⟩ := sm_or_inl hrun
                    split at hr
                    · next hok =>
                      have g1 := sm_run_ge _ _ _ _ _ _ _ _ _ _ hrun
                      have g2 := sm_run_ge _ _ _ _ _ _ _ _ _ _ hr
                      intro ad H locs ls e1 hP hD hS hl
                      have kk := ih (d + 1) lw y (pc + 3) L (v.toList ++ S.drop w) h1 o h' hr p e R s m args below meth c A ad0 n0 C1 S1 hx hb hml hret hlk hown hmn het hts hK hfx hA (Nat.le_trans hn0 g1.2.2) ⟨Nat.le_trans g1.1 hle.1, Nat.le_trans g1.2.1 hle.2⟩ hroom hd hlo
                      have eS : S.map (sm_v b ad) = ((S.take w).reverse.map (sm_v b ad)).reverse ++ (S.drop w).map (sm_v b ad) := by
                        rw [List.map_reverse, List.reverse_reverse, ← List.map_append, List.take_append_drop]
                      have hpre : ∀ U : State, U.heap = H → s.WarmedH U.vm → sm_Pc D cl cA b tyN NW AO KT fx ad H.size (S.take w).reverse h ((S.take w).reverse.map (sm_v b ad)).toArray U := by
                        intro U hU hW
                        have hq : ∀ q, fx q → U.heap[q]? = s.heap[q]? := fun q hq => by rw [hU]; exact hS.2.1 q (hfx q hq).1 (hfx q hq).2
                        refine ⟨rfl, by rw [hU], by rw [hU]; exact hP, hD.weaken (fun _ _ _ _ => trivial), sm_Kx_mv hM hW hq hK, fun q hq => ⟨Nat.lt_of_lt_of_le (hfx q hq).1 hS.1, fun hz => ?_⟩⟩
                        rcases hz with ⟨k9, e9, hz⟩ | hz
                        · exact (hfx q hq).2 (hD.2 k9 (q, e9) hz)
                        · exact absurd (Nat.lt_of_lt_of_le (hfx q hq).1 hS.1) (by omega)
                      cases hez : eh z with
                      | cons q9 r9 =>
                        have hez0 : eh z ≠ [] := by rw [hez]; exact fun h => by cases h
                        obtain ⟨hk, hlk3⟩ := CW y idx k z w hcal hez0
                        subst hk
                        have hcw : sm_cw T bc nm eh z = Cond.codeWith (nm z) (bc z) (sm_nL T z).1 (sm_rt T z) (eh z) := by unfold sm_cw; rw [hez]
                        rw [hcw] at fcw
                        have hMet := sm_metW ih hrun hvs (by rw [hlen]; exact w5) fpl ad H.size
                        refine sm_on hA hn0 hle g1 hok e1 hD hS hl (av := ((S.take w).reverse.map (sm_v b ad)).toArray) ?_ kk
                        rw [eS]
                        refine sm_runSW (idx := idx) (n := w) (Pc := sm_Pc D cl cA b tyN NW AO KT fx ad H.size (S.take w).reverse h) hx hb hml hown hts hG hMet fcw rfl rfl fini hlk3 fds ⟨by show d + 1 ≤ R.frames; omega, by show 8 + ((sm_nL T z).1 + 11) + (lw - (19 + (sm_nL T z).1)) ≤ R.locals; omega⟩ (sm_blind hM) hpre hl.2.1 (by rw [sm_sum_map]; exact w2) ⟨by omega, by omega⟩ (by rw [List.length_map, hlen]) (fs rfl) ?_
                        rcases hop with ⟨rfl, hk⟩ | ⟨rfl, hk⟩ | ⟨rfl, hk⟩
                        · exact sm_dec_of TB hi rfl
                        · omega
                        · omega
                      | nil =>
                        have hcw : sm_cw T bc nm eh z = Cond.code (nm z) (bc z) (sm_nL T z).1 (sm_rt T z) := by unfold sm_cw; rw [hez]
                        rw [hcw] at fcw
                        have hMet := sm_met ih hrun hvs (by rw [hlen]; exact w5) fpl hez ad H.size
                        refine sm_on hA hn0 hle g1 hok e1 hD hS hl (av := ((S.take w).reverse.map (sm_v b ad)).toArray) ?_ kk
                        rw [eS]
                        refine sm_run345 (k := k) (idx := idx) (n := if k = 3 then w else w - 1) (Pc := sm_Pc D cl cA b tyN NW AO KT fx ad H.size (S.take w).reverse h) hx hb hml hown hts hK.2.1 hG hMet fcw rfl rfl fini flk fds ⟨by show d + 1 ≤ R.frames; omega, by show 8 + ((sm_nL T z).1 + 11) + (lw - (19 + (sm_nL T z).1)) ≤ R.locals; omega⟩ (sm_blind hM) hpre hl.2.1 (by rw [sm_sum_map]; exact w2) ⟨by omega, by omega⟩ ?_
                        rcases hop with ⟨rfl, hk⟩ | ⟨rfl, hk⟩ | ⟨rfl, hk⟩
                        · have hk : k = 3 := by omega
                          subst hk
                          exact Or.inl ⟨rfl, by rw [List.length_map, hlen]; rfl, fs rfl, sm_dec_of TB hi rfl⟩
                        · subst hk
                          have hw1 := fw1 (by decide)
                          refine Or.inr (Or.inl ⟨rfl, by rw [List.length_map, hlen]; show w = w - 1 + 1; omega, (fv rfl).1, (fv rfl).2.1, ?_, sm_dec_of TB hi rfl⟩)
                          obtain ⟨q8, hq8, hq9⟩ := (fv rfl).2.2
                          obtain ⟨a, rest, fs9, h8, hz9⟩ := sm_rcv4 w3
                          obtain ⟨cellB, r1, r2, r3⟩ := va_recv hK.1 hP hq8 (sm_w_get hz9)
                          exact ⟨ad a, rest.map (sm_v b ad), cellB, by rw [h8]; rfl, r1, r2, by rw [← hq9]; exact r3⟩
                        · have hk : k = 5 := by omega
                          subst hk
                          have hw1 := fw1 (by decide)
                          refine Or.inr (Or.inr ⟨rfl, by rw [List.length_map, hlen]; show w = w - 1 + 1; omega, (fi rfl).1, (fi rfl).2.1, ?_, ?_, sm_dec_of TB hi rfl⟩)
                          · unfold sm_rt
                            rw [(fi rfl).2.2]
                            rfl
                          · obtain ⟨a, rest, h8⟩ := sm_rcv5 w3
                            exact ⟨ad a, rest.map (sm_v b ad), by rw [h8]; rfl⟩
                    · cases hr
                  · next x h1 hrun =>
                    have g1 : h1.2.2.2.1 ≤ h.2.2.2.1 ∧ h1.2.2.2.2 ≤ h.2.2.2.2 ∧ h.1.length ≤ h1.1.length := sm_or_ge hrun (fun hs => sm_run_ge _ _ _ _ _ _ _ _ _ _ hs)
                    split at hr
                    · cases hr
                    · next hk5 =>
                      have hMT : eh z = [] ∧ ∀ (ad : Nat → Nat) (sz : Nat), sm_MetT l (nm z) (Cond.code (nm z) (bc z) (sm_nL T z).1 (sm_rt T z) :: WA) { frames := d, cells := h.2.2.2.1 - h1.2.2.2.1, slots := h.2.2.2.2 - h1.2.2.2.2, locals := lw - (19 + (sm_nL T z).1) } (sm_Pc D cl cA b tyN NW AO KT fx ad sz (S.take w).reverse h) (fun st a t => sm_Qt D cl cA (va_A (sm_w cA ad h) sz) ad h.1.length XC x h1 a st t) (h.2.2.2.1 - h1.2.2.2.1) (h.2.2.2.2 - h1.2.2.2.2) (va_A (sm_w cA ad h) sz) := by
                        unfold sm_or at hrun
                        split at hrun
                        · next x9 kc ks hth9 =>
                          split at hrun
                          · next hc9 =>
                            cases hrun
                            exact ⟨TE _ _ _ _ hth9, fun ad sz => hTh z _ h _ kc ks hth9 hvs (by rw [hlen]; exact w5) d _ hc9.1 hc9.2.1 hc9.2.2.1 hc9.2.2.2 ad sz⟩
                          · cases hrun
                        · have hez : eh z = [] := sm_run_thr XN _ _ _ _ _ _ _ _ _ _ hrun
                          exact ⟨hez, fun ad sz => sm_metT ih hrun hvs (by rw [hlen]; exact w5) fpl hez ad sz⟩
                      obtain ⟨hez, hMT⟩ := hMT
                      have hcw : sm_cw T bc nm eh z = Cond.code (nm z) (bc z) (sm_nL T z).1 (sm_rt T z) := by unfold sm_cw; rw [hez]
                      rw [hcw] at fcw
                      have key : ∀ (ad : Nat → Nat) (H : Heap) (locs : List Loc) (ls : Array Slot), va_P D cl (sm_w cA ad h) H → va_D A (sm_w cA ad h) → va_S A s.heap H locs → sm_l b ad ls (sm_nL T y).1 L → C1 - h1.2.2.2.1 ≤ R.cells ∧ S1 - h1.2.2.2.2 ≤ R.slots →
                          sm_Th p l e R s m args below meth c D cl cA ad XC x h h1 H locs (C1 - h.2.2.2.1) (S1 - h.2.2.2.2) (h.2.2.2.1 - h1.2.2.2.1) (h.2.2.2.2 - h1.2.2.2.2) pc ls (S.map (sm_v b ad)) ((S.drop w).map (sm_v b ad)) := by
                        intro ad H locs ls hP hD hS hl hro
                        have eS : S.map (sm_v b ad) = ((S.take w).reverse.map (sm_v b ad)).reverse ++ (S.drop w).map (sm_v b ad) := by
                          rw [List.map_reverse, List.reverse_reverse, ← List.map_append, List.take_append_drop]
                        have hpre : ∀ U : State, U.heap = H → s.WarmedH U.vm → sm_Pc D cl cA b tyN NW AO KT fx ad H.size (S.take w).reverse h ((S.take w).reverse.map (sm_v b ad)).toArray U := by
                          intro U hU hW
                          have hq : ∀ q, fx q → U.heap[q]? = s.heap[q]? := fun q hq => by rw [hU]; exact hS.2.1 q (hfx q hq).1 (hfx q hq).2
                          refine ⟨rfl, by rw [hU], by rw [hU]; exact hP, hD.weaken (fun _ _ _ _ => trivial), sm_Kx_mv hM hW hq hK, fun q hq => ⟨Nat.lt_of_lt_of_le (hfx q hq).1 hS.1, fun hz => ?_⟩⟩
                          rcases hz with ⟨k9, e9, hz⟩ | hz
                          · exact (hfx q hq).2 (hD.2 k9 (q, e9) hz)
                          · exact absurd (Nat.lt_of_lt_of_le (hfx q hq).1 hS.1) (by omega)
                        unfold sm_Th
                        rw [eS]
                        refine sm_thrown (k := k) (idx := idx) (n := if k = 3 then w else w - 1) (Pc := sm_Pc D cl cA b tyN NW AO KT fx ad H.size (S.take w).reverse h) hx hb hml hown hts hK.2.1 hG (hMT ad H.size) fcw rfl rfl fini flk fds ⟨by show d + 1 ≤ R.frames; omega, by show 8 + ((sm_nL T z).1 + 11) + (lw - (19 + (sm_nL T z).1)) ≤ R.locals; omega⟩ (sm_blind hM) hpre hl.2.1 (by rw [sm_sum_map]; exact w2) ⟨by omega, by omega⟩ ?_
                        rcases hop with ⟨rfl, hk⟩ | ⟨rfl, hk⟩ | ⟨rfl, hk⟩
                        · have hk : k = 3 := by omega
                          subst hk
                          exact Or.inl ⟨rfl, by rw [List.length_map, hlen]; rfl, fs rfl, sm_dec_of TB hi rfl⟩
                        · subst hk
                          have hw1 := fw1 (by decide)
                          refine Or.inr ⟨rfl, by rw [List.length_map, hlen]; show w = w - 1 + 1; omega, (fv rfl).1, (fv rfl).2.1, ?_, sm_dec_of TB hi rfl⟩
                          obtain ⟨q8, hq8, hq9⟩ := (fv rfl).2.2
                          obtain ⟨a, rest, fs9, h8, hz9⟩ := sm_rcv4 w3
                          obtain ⟨cellB, r1, r2, r3⟩ := va_recv hK.1 hP hq8 (sm_w_get hz9)
                          exact ⟨ad a, rest.map (sm_v b ad), cellB, by rw [h8]; rfl, r1, r2, by rw [← hq9]; exact r3⟩
                        · omega
                      split at hr
                      · cases hr
                      · next hcat =>
                        cases hr
                        intro ad H locs ls e1 hP hD hS hl
                        have hno : c.exceptionTable.toList = [] := by rw [het, XN _ _ _ hcat]; rfl
                        exact sm_y_out hA hn0 hle g1 e1 hD hS hlk hno (key ad H locs ls hP hD hS hl hroom)
                      · next pc' q hcat =>
                        split at hr
                        · next hok =>
                          have g2 := sm_run_ge _ _ _ _ _ _ _ _ _ _ hr
                          intro ad H locs ls e1 hP hD hS hl
                          exact sm_y_in hx hb hown hts (hKN s hK.2.2.2) hA hn0 hle g1 e1 hD hS hl hok het (XB y pc x pc' q hcat) (key ad H locs ls hP hD hS hl ⟨by omega, by omega⟩) (ih (d + 1) lw y pc' (L.set q none) [] h1 o h' hr p e R s m args below meth c A ad0 n0 C1 S1 hx hb hml hret hlk hown hmn het hts hK hfx hA (Nat.le_trans hn0 g1.2.2) ⟨Nat.le_trans g1.1 hle.1, Nat.le_trans g1.2.1 hle.2⟩ hroom hd hlo)
                        · cases hr
                  · cases hr
                · cases hr
end SMB
end
section
/-! ===== reasoning on runs of the small machine ===== -/
theorem sm_run_more {T : sm_T} {X : Nat × (Nat → Int32)} {ok : Nat → Nat → Bool} : ∀ (n d lw y pc : Nat) (L : sm_L) (S : List Value) (h : sm_H) (r : sm_O × sm_H), sm_run T X ok n d lw y pc L S h = some r → sm_run T X ok (n + 1) d lw y pc L S h = some r := by
  intro n
  induction n with
  | zero => intro d lw y pc L S h r hr; cases hr
  | succ n ih =>
    intro d lw y pc L S h r hr
    unfold sm_run at hr ⊢
    split at hr
    · cases hr
    · next i hi =>
      (try rw [hi])
      (try dsimp only)
      split at hr
      · next hc => (try rw [if_pos hc]); exact hr
      · next hc =>
        (try rw [if_neg hc])
        split at hr
        · next hv =>
          (try rw [hv])
          (try dsimp only)
          split at hr
          · next hs => (try rw [hs]); exact ih _ _ _ _ _ _ _ _ hr
          · cases hr
        · next k z w hv =>
          (try rw [hv])
          (try dsimp only)
          split at hr
          · cases hr
          · next d =>
            (try dsimp only)
            split at hr
            · next hk =>
              (try rw [if_pos hk])
              split at hr
              · next hlw =>
                (try rw [if_pos hlw])
                split at hr
                · next hs => (try rw [hs]); exact ih _ _ _ _ _ _ _ _ hr
                · cases hr
              · cases hr
            · next hk =>
              (try rw [if_neg hk])
              split at hr
              · next hw =>
                (try rw [if_pos hw])
                have hor : ∀ q, sm_or (sm_thr T z (S.take w).reverse h) d (lw - (19 + (sm_nL T z).1)) h (sm_run T X ok n d (lw - (19 + (sm_nL T z).1)) z 0 (sm_ent (sm_nL T z).1 (S.take w).reverse) [] h) = some q → sm_or (sm_thr T z (S.take w).reverse h) d (lw - (19 + (sm_nL T z).1)) h (sm_run T X ok (n + 1) d (lw - (19 + (sm_nL T z).1)) z 0 (sm_ent (sm_nL T z).1 (S.take w).reverse) [] h) = some q := by
                  intro q hq
                  unfold sm_or at hq ⊢
                  split at hq
                  · exact hq
                  · exact ih _ _ _ _ _ _ _ _ hq
                split at hr
                · next v h1 hs =>
                  (try rw [hor _ hs])
                  (try dsimp only)
                  split at hr
                  · next h2 => (try rw [if_pos h2]); exact ih _ _ _ _ _ _ _ _ hr
                  · cases hr
                · next x h1 hs =>
                  (try rw [hor _ hs])
                  (try dsimp only)
                  split at hr
                  · cases hr
                  · next hk5 =>
                    (try rw [if_neg hk5])
                    split at hr
                    · cases hr
                    · next hcat => (try rw [hcat]); exact hr
                    · next hcat =>
                      (try rw [hcat])
                      (try dsimp only)
                      split at hr
                      · next h2 => (try rw [if_pos h2]); exact ih _ _ _ _ _ _ _ _ hr
                      · cases hr
                · cases hr
              · cases hr
theorem sm_run_le {T : sm_T} {X : Nat × (Nat → Int32)} {ok : Nat → Nat → Bool} {n k d lw y pc : Nat} {L : sm_L} {S : List Value} {h : sm_H} {r : sm_O × sm_H} (hr : sm_run T X ok n d lw y pc L S h = some r) (hk : n ≤ k) : sm_run T X ok k d lw y pc L S h = some r := by
  induction k with
  | zero =>
    have : n = 0 := by omega
    subst this
    exact hr
  | succ k ih =>
    by_cases he : n = k + 1
    · subst he; exact hr
    · exact sm_run_more _ _ _ _ _ _ _ _ _ (ih (by omega))
def sm_wp (T : sm_T) (X : Nat × (Nat → Int32)) (ok : Nat → Nat → Bool) (d lw y pc : Nat) (L : sm_L) (S : List Value) (h : sm_H) (Q : sm_O → sm_H → Prop) : Prop := ∃ n o h', sm_run T X ok n d lw y pc L S h = some (o, h') ∧ Q o h'
section SMWP
variable {T : sm_T} {X : Nat × (Nat → Int32)} {ok : Nat → Nat → Bool} {d lw y pc : Nat} {L : sm_L} {S : List Value} {h : sm_H} {Q : sm_O → sm_H → Prop}
theorem wp_mono {Q' : sm_O → sm_H → Prop} (hw : sm_wp T X ok d lw y pc L S h Q') (hq : ∀ o h', Q' o h' → Q o h') : sm_wp T X ok d lw y pc L S h Q := by
  obtain ⟨n, o, h', hr, h1⟩ := hw
  exact ⟨n, o, h', hr, hq o h' h1⟩
theorem wp_i {i : Instr} {r : sm_P} (hins : sm_ins T y pc = some i) (hr : sm_isret i = false) (hv : sm_inv T y i = none) (hi : sm_i T X ok y i pc L S h = some r) (k : sm_wp T X ok d lw y r.1 r.2.1 r.2.2.1 r.2.2.2 Q) : sm_wp T X ok d lw y pc L S h Q := by
  obtain ⟨n, o, h', hrun, hq⟩ := k
  refine ⟨n + 1, o, h', ?_, hq⟩
  unfold sm_run
  rw [hins]
  dsimp only
  rw [if_neg (by rw [hr]; decide), hv]
  dsimp only
  rw [hi]
  exact hrun
theorem wp_ret {i : Instr} {v : Option Value} (hins : sm_ins T y pc = some i) (hr : sm_isret i = true) (hv : sm_ret (sm_nL T y).2.1 i S = some v) (hq : Q (.inl v) h) : sm_wp T X ok d lw y pc L S h Q := by
  refine ⟨1, .inl v, h, ?_, hq⟩
  unfold sm_run
  rw [hins]
  dsimp only
  rw [if_pos hr, hv]
  rfl
theorem wp_lib {i : Instr} {k z w : Nat} {r : sm_P} (hins : sm_ins T y pc = some i) (hr : sm_isret i = false) (hv : sm_inv T y i = some (k, z, w)) (hk : k < 3) (hlw : 100 ≤ lw) (hi : sm_lib k (pc + 3) L S h = some r) (kk : sm_wp T X ok (d + 1) lw y r.1 r.2.1 r.2.2.1 r.2.2.2 Q) : sm_wp T X ok (d + 1) lw y pc L S h Q := by
  obtain ⟨n, o, h', hrun, hq⟩ := kk
  refine ⟨n + 1, o, h', ?_, hq⟩
  unfold sm_run
  rw [hins]
  dsimp only
  rw [if_neg (by rw [hr]; decide), hv]
  dsimp only
  rw [if_pos hk, if_pos hlw, hi]
  exact hrun
theorem wp_call {i : Instr} {k z w : Nat} {Q1 : sm_O → sm_H → Prop} (hins : sm_ins T y pc = some i) (hr : sm_isret i = false) (hv : sm_inv T y i = some (k, z, w)) (hk : ¬ k < 3) (hw : w ≤ S.length ∧ sm_sum (S.drop w) ≤ 8 ∧ sm_rcv k (sm_nL T z).2.2 (S.take w).reverse h = true ∧ (S.take w).all sm_c1 = true ∧ w ≤ (sm_nL T z).1 ∧ 19 + (sm_nL T z).1 ≤ lw)
    (ht : sm_thr T z (S.take w).reverse h = none) (hc : sm_wp T X ok d (lw - (19 + (sm_nL T z).1)) z 0 (sm_ent (sm_nL T z).1 (S.take w).reverse) [] h Q1)
    (kv : ∀ v h1, Q1 (.inl v) h1 → sm_ok2 L (S.drop w) h h1 = true ∧ sm_wp T X ok (d + 1) lw y (pc + 3) L (v.toList ++ S.drop w) h1 Q)
    (kt : ∀ x h1, Q1 (.inr x) h1 → k ≠ 5 ∧ ((sm_cat T y pc x = some none ∧ Q (.inr x) h1) ∨ ∃ pc' q, sm_cat T y pc x = some (some (pc', q)) ∧ sm_ok2 L [] h h1 = true ∧ sm_wp T X ok (d + 1) lw y pc' (L.set q none) [] h1 Q)) : sm_wp T X ok (d + 1) lw y pc L S h Q := by
  obtain ⟨n1, o1, h1, hrun1, hq1⟩ := hc
  cases o1 with
  | inl v =>
    obtain ⟨g1, n2, o, h', hrun, hq⟩ := kv v h1 hq1
    refine ⟨max n1 n2 + 1, o, h', ?_, hq⟩
    unfold sm_run
    rw [hins]
    dsimp only
    rw [if_neg (by rw [hr]; decide), hv]
    dsimp only
    rw [if_neg hk, if_pos hw, ht]
    (try dsimp only [sm_or])
    rw [sm_run_le hrun1 (Nat.le_max_left n1 n2)]
    dsimp only
    rw [if_pos g1]
    exact sm_run_le hrun (Nat.le_max_right n1 n2)
  | inr x =>
    obtain ⟨hk5, kt⟩ := kt x h1 hq1
    rcases kt with ⟨g1, hq⟩ | ⟨pc', q, g1, g2, n2, o, h', hrun, hq⟩
    · refine ⟨n1 + 1, .inr x, h1, ?_, hq⟩
      unfold sm_run
      rw [hins]
      dsimp only
      rw [if_neg (by rw [hr]; decide), hv]
      dsimp only
      rw [if_neg hk, if_pos hw, ht]
      (try dsimp only [sm_or])
      rw [hrun1]
      dsimp only
      rw [if_neg hk5, g1]
    · refine ⟨max n1 n2 + 1, o, h', ?_, hq⟩
      unfold sm_run
      rw [hins]
      dsimp only
      rw [if_neg (by rw [hr]; decide), hv]
      dsimp only
      rw [if_neg hk, if_pos hw, ht]
      (try dsimp only [sm_or])
      rw [sm_run_le hrun1 (Nat.le_max_left n1 n2)]
      dsimp only
      rw [if_neg hk5, g1]
      dsimp only
      rw [if_pos g2]
      exact sm_run_le hrun (Nat.le_max_right n1 n2)
/-- a call of a method that throws at once -/
theorem wp_callT {i : Instr} {k z w x kc ks : Nat} (hk5 : k ≠ 5) (hins : sm_ins T y pc = some i) (hr : sm_isret i = false) (hv : sm_inv T y i = some (k, z, w)) (hk : ¬ k < 3) (hw : w ≤ S.length ∧ sm_sum (S.drop w) ≤ 8 ∧ sm_rcv k (sm_nL T z).2.2 (S.take w).reverse h = true ∧ (S.take w).all sm_c1 = true ∧ w ≤ (sm_nL T z).1 ∧ 19 + (sm_nL T z).1 ≤ lw)
    (ht : sm_thr T z (S.take w).reverse h = some (x, kc, ks)) (hc : kc ≤ h.2.2.2.1 ∧ ks ≤ h.2.2.2.2 ∧ 6 ≤ d ∧ 100 ≤ lw - (19 + (sm_nL T z).1))
    (kt : (sm_cat T y pc x = some none ∧ Q (.inr x) (h.1, h.2.1, h.2.2.1, h.2.2.2.1 - kc, h.2.2.2.2 - ks)) ∨ ∃ pc' q, sm_cat T y pc x = some (some (pc', q)) ∧ sm_wp T X ok (d + 1) lw y pc' (L.set q none) [] (h.1, h.2.1, h.2.2.1, h.2.2.2.1 - kc, h.2.2.2.2 - ks) Q) : sm_wp T X ok (d + 1) lw y pc L S h Q := by
  rcases kt with ⟨g1, hq⟩ | ⟨pc', q, g1, n2, o, h', hrun, hq⟩
  · refine ⟨1, .inr x, _, ?_, hq⟩
    unfold sm_run
    rw [hins]
    dsimp only
    rw [if_neg (by rw [hr]; decide), hv]
    dsimp only
    rw [if_neg hk, if_pos hw, ht]
    dsimp only [sm_or]
    rw [if_pos hc]
    dsimp only
    rw [if_neg hk5, g1]
  · refine ⟨n2 + 1, o, h', ?_, hq⟩
    unfold sm_run
    rw [hins]
    dsimp only
    rw [if_neg (by rw [hr]; decide), hv]
    dsimp only
    rw [if_neg hk, if_pos hw, ht]
    dsimp only [sm_or]
    rw [if_pos hc]
    dsimp only
    rw [if_neg hk5, g1]
    dsimp only
    rw [if_pos (by unfold sm_ok2; simp)]
    exact hrun
end SMWP
end
