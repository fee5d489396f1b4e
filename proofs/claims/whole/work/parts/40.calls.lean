/-! ===== calls ===== -/
def tb_chG (q : Nat × Nat × Nat × Nat × Nat) : Bool := match q.2.2.1 with
  | 0 => decide (Cond.methodLink (tb_cn q.1) q.2.1 Lib.objectInit ∈ tb_WA) && decide (Cond.instanceMethod Lib.objectInit ∈ tb_WA) && decide (Cond.code Lib.objectInit ⟨#[0xb1]⟩ 1 none ∈ tb_WA)
  | 1 => decide (Cond.methodLink (tb_cn q.1) q.2.1 Lib.Math.max.name ∈ tb_WA) && decide (Cond.static Lib.Math.max.name ∈ tb_WA) && decide (Cond.initialized "java/lang/Math" ∈ tb_WA) && decide (Cond.code Lib.Math.max.name Lib.Math.max.code 2 (some .int) ∈ tb_WA)
  | 2 => decide (Cond.methodLink (tb_cn q.1) q.2.1 arraycopyName ∈ tb_WA) && decide (Cond.native arraycopyName ∈ tb_WA) && decide (Cond.static arraycopyName ∈ tb_WA) && decide (Cond.initialized "java/lang/System" ∈ tb_WA)
  | k => (decide (Cond.methodLink (tb_cn q.1) q.2.1 (tb_nm q.2.2.2.1) ∈ tb_WA) || decide (Cond.methodLinkNest (tb_cn q.1) q.2.1 (tb_nm q.2.2.2.1) "VaultDevices" ∈ tb_NW)) && decide (Cond.initialized (tb_nm q.2.2.2.1).cls ∈ tb_WA) && plainName (tb_nm q.2.2.2.1).cls &&
    decide ((tb_nm q.2.2.2.1).cls ≠ "java/lang/invoke/MethodHandle" ∧ (tb_nm q.2.2.2.1).cls ≠ "java/lang/invoke/VarHandle" ∧ (parseMethodDescriptor (tb_nm q.2.2.2.1).desc).map (fun d => d.parameters.length) = some (if k = 3 then q.2.2.2.2 else q.2.2.2.2 - 1)) && decide (k = 3 ∨ 1 ≤ q.2.2.2.2) && decide ((sm_nL tb_T q.2.2.2.1).1 ≤ 40) && decide (q.2.2.2.1 < 141) && decide (q.2.2.2.1 ≠ 139) &&
    (match k with
    | 3 => decide (Cond.static (tb_nm q.2.2.2.1) ∈ tb_WA)
    | 4 => decide (Cond.instanceMethod (tb_nm q.2.2.2.1) ∈ tb_WA) && decide (Cond.selects (tb_nm q.2.2.2.1).cls (tb_nm q.2.2.2.1) (tb_nm q.2.2.2.1) ∈ tb_WA) && (match tb_cl[(sm_nL tb_T q.2.2.2.1).2.2]? with
      | some r => decide (r.1 = (tb_nm q.2.2.2.1).cls)
      | none => false)
    | 5 => decide (Cond.instanceMethod (tb_nm q.2.2.2.1) ∈ tb_WA) && decide ((tb_nm q.2.2.2.1).name = "<init>") && decide ((sm_nL tb_T q.2.2.2.1).2.1 = 0)
    | _ => false)
