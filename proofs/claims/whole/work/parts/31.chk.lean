/-! ===== tables as lists, and that a program has looked through them ===== -/
/-- a method: instructions by pc, code, locals, kind of answer (0 none, 1 int, 2 boolean), class number (of its objects), class number (of its pool), name, handlers -/
abbrev tb_M : Type := (Nat → Option Instr) × ByteArray × Nat × Nat × Nat × Nat × MethodName × List (Nat × Nat × Nat × Nat)
def tb_okI (nl : Nat) (c : ByteArray) (f : Nat → Option Instr) : Prop := ∀ pc i, f pc = some i → ∃ len, decode c pc = .ok (i, len) ∧ (sm_tsw i = false → len = sm_len i) ∧ sm_lok nl i = true
def tb_chI (nl : Nat) (c : ByteArray) (f : Nat → Option Instr) (pc : Nat) : Bool := match f pc with
  | none => true
  | some i => match decode c pc with
    | .ok (j, len) => decide (j = i) && (sm_tsw i || decide (len = sm_len i)) && sm_lok nl i
    | _ => false
theorem tb_okI_of {nl : Nat} {c : ByteArray} {f : Nat → Option Instr} (N : Nat) (hN : ∀ pc, N ≤ pc → f pc = none) (h : (List.range N).all (tb_chI nl c f) = true) : tb_okI nl c f := by
  intro pc i hi
  by_cases hp : pc < N
  · have h1 := List.all_eq_true.mp h pc (List.mem_range.mpr hp)
    unfold tb_chI at h1
    rw [hi] at h1
    dsimp only at h1
    split at h1
    · next j len hd =>
      rw [Bool.and_eq_true, Bool.and_eq_true] at h1
      obtain ⟨⟨h2, h3⟩, h4⟩ := h1
      have h2 := of_decide_eq_true h2
      subst h2
      refine ⟨len, hd, fun h5 => ?_, h4⟩
      rw [h5, Bool.false_or] at h3
      exact of_decide_eq_true h3
    · cases h1
  · rw [hN pc (by omega)] at hi
    cases hi
/-- behind the last instruction there is none -/
def tb_cut (N : Nat) (f : Nat → Option Instr) : Nat → Option Instr := fun pc => cond (Nat.blt pc N) (f pc) none
theorem tb_cut_out {N : Nat} {f : Nat → Option Instr} : ∀ pc, N ≤ pc → tb_cut N f pc = none := by
  intro pc h
  unfold tb_cut
  have : Nat.blt pc N = false := by
    cases hb : Nat.blt pc N with
    | false => rfl
    | true => exact absurd (Nat.le_of_ble_eq_true hb) (by show ¬ pc + 1 ≤ N; omega)
  rw [this]
  rfl
def tb_fd {α : Type} (l : List (Nat × Nat × α)) (a b : Nat) : Option α := match l with
  | [] => none
  | q :: r => cond (Nat.beq q.1 a && Nat.beq q.2.1 b) (some q.2.2) (tb_fd r a b)
theorem tb_fd_mem {α : Type} {l : List (Nat × Nat × α)} {a b : Nat} {x : α} (h : tb_fd l a b = some x) : (a, b, x) ∈ l := by
  induction l with
  | nil => cases h
  | cons q r ih =>
    unfold tb_fd at h
    cases hc : (Nat.beq q.1 a && Nat.beq q.2.1 b) with
    | false => rw [hc] at h; exact List.mem_cons_of_mem _ (ih h)
    | true =>
      rw [hc] at h
      rw [Bool.and_eq_true] at hc
      have h1 := Nat.eq_of_beq_eq_true hc.1
      have h2 := Nat.eq_of_beq_eq_true hc.2
      have h3 : q.2.2 = x := Option.some.inj h
      obtain ⟨q1, q2, q3⟩ := q
      dsimp only at h1 h2 h3
      subst h1 h2 h3
      exact List.mem_cons_self
/-- what is said of a class of objects -/
def tb_Cok (cl : List vw_C) (WA : List Cond) (ty : Nat → Nat → FieldType) : Prop := ∀ (ci : Nat) (C : String) (T : u_T) (N : Nat), cl[ci]? = some (C, T, N) →
  (∀ w ∈ u_ws C T N, w ∈ WA) ∧ (∀ i, i < N → parseFieldDescriptor (T i).2.2.1 = some (ty ci i)) ∧ (∀ i, i < N → ∀ j, j < N → i ≠ j → (T i).2.1 ≠ (T j).2.1)
def tb_isq : FieldType → Bool
  | .object _ => true
  | .array _ => true
  | _ => false
def tb_chF (cl : List vw_C) (WA NW : List Cond) (ty : Nat → Nat → FieldType) (cn : Nat → String) (host : String) (q : Nat × Nat × Nat × Nat × Nat) : Bool := match cl[q.2.2.1]? with
  | some (_, T, N) => decide (q.2.2.2.1 < N) &&
    (decide (Cond.fieldLink (cn q.1) q.2.1 (T q.2.2.2.1).1 (T q.2.2.2.1).2.1 (T q.2.2.2.1).2.2.1 ∈ WA) || decide (Cond.fieldLinkNest (cn q.1) q.2.1 (T q.2.2.2.1).1 (T q.2.2.2.1).2.1 (T q.2.2.2.1).2.2.1 host ∈ NW)) &&
    (decide (q.2.2.2.2 = 0 ∧ ty q.2.2.1 q.2.2.2.1 = .int) || decide (q.2.2.2.2 = 1 ∧ ty q.2.2.1 q.2.2.2.1 = .boolean) || (decide (q.2.2.2.2 = 2) && tb_isq (ty q.2.2.1 q.2.2.2.1)))
  | none => false
theorem tb_chF_of {cl : List vw_C} {WA NW : List Cond} {ty : Nat → Nat → FieldType} {cn : Nat → String} {host : String} {o idx ci j k : Nat} (hC : tb_Cok cl WA ty) (h : tb_chF cl WA NW ty cn host (o, idx, ci, j, k) = true) : sm_Fo cl WA NW (cn o) idx ci j k := by
  unfold tb_chF at h
  dsimp only at h
  split at h
  · next C T N hc =>
    obtain ⟨c1, c2, c3⟩ := hC ci C T N hc
    rw [Bool.and_eq_true, Bool.and_eq_true, Bool.or_eq_true, Bool.or_eq_true, Bool.or_eq_true, Bool.and_eq_true] at h
    obtain ⟨⟨h1, h2⟩, h3⟩ := h
    refine ⟨C, T, N, ty ci, hc, of_decide_eq_true h1, c1, ?_, c2, c3, ?_⟩
    · rcases h2 with h2 | h2
      · exact Or.inl (of_decide_eq_true h2)
      · exact Or.inr ⟨host, of_decide_eq_true h2⟩
    · rcases h3 with (h3 | h3) | h3
      · obtain ⟨g1, g2⟩ := of_decide_eq_true h3
        exact ⟨fun _ => g2, fun g => by omega, fun g => by omega⟩
      · obtain ⟨g1, g2⟩ := of_decide_eq_true h3
        exact ⟨fun g => by omega, fun _ => g2, fun g => by omega⟩
      · have g1 := of_decide_eq_true h3.1
        have g2 := h3.2
        refine ⟨fun g => by omega, fun g => by omega, fun _ => ?_⟩
        cases hz : ty ci j with
        | object z => exact Or.inl ⟨z, rfl⟩
        | array z => exact Or.inr ⟨z, rfl⟩
        | _ => rw [hz] at g2; cases g2
  · cases h
def tb_chP (cl : List vw_C) (WA : List Cond) (own : String) (ini : Bool) (FL : List (Nat × Nat × Nat × Nat × Nat)) (o : Nat) (f : Nat → Option Instr) (pc : Nat) : Bool := match f pc with
  | none => true
  | some i => match sm_isput i with
    | none => true
    | some idx => match tb_fd FL o idx with
      | none => true
      | some (ci, j, _) => match cl[ci]? with
        | none => true
        | some (_, T, _) => !(T j).2.2.2 || (ini && decide ((T j).1 = own) && decide (Cond.fieldLink own idx (T j).1 (T j).2.1 (T j).2.2.1 ∈ WA))
def tb_okP (cl : List vw_C) (WA : List Cond) (own : String) (ini : Bool) (FL : List (Nat × Nat × Nat × Nat × Nat)) (o : Nat) (f : Nat → Option Instr) : Prop := ∀ pc i idx ci j k, f pc = some i → sm_isput i = some idx → tb_fd FL o idx = some (ci, j, k) → sm_Fp cl WA own idx ini ci j
theorem tb_okP_of {cl : List vw_C} {WA : List Cond} {own : String} {ini : Bool} {FL : List (Nat × Nat × Nat × Nat × Nat)} {o : Nat} {f : Nat → Option Instr} (N : Nat) (hN : ∀ pc, N ≤ pc → f pc = none) (h : (List.range N).all (tb_chP cl WA own ini FL o f) = true) : tb_okP cl WA own ini FL o f := by
  intro pc i idx ci j k hi hp hf C T M hc hfin
  by_cases hpc : pc < N
  · have h1 := List.all_eq_true.mp h pc (List.mem_range.mpr hpc)
    unfold tb_chP at h1
    rw [hi] at h1
    dsimp only at h1
    rw [hp] at h1
    dsimp only at h1
    rw [hf] at h1
    dsimp only at h1
    rw [hc] at h1
    dsimp only at h1
    rw [hfin] at h1
    simp only [Bool.not_true, Bool.false_or, Bool.and_eq_true, decide_eq_true_eq] at h1
    exact ⟨h1.1.1, h1.1.2, h1.2⟩
  · rw [hN pc (by omega)] at hi
    cases hi
def tb_df (ty : FieldType) (f : Option (Option Nat)) : Bool := match f with
  | none => decide (defaultValue ty = .int 0)
  | some none => decide (defaultValue ty = .null)
  | _ => false
def tb_chN (cl : List vw_C) (WA : List Cond) (ty : Nat → Nat → FieldType) (cn : Nat → String) (q : Nat × Nat × Nat × List (Option (Option Nat))) : Bool := match cl[q.2.2.1]? with
  | some (C, _, N) => decide (q.2.2.2.length = N) && decide (Cond.classLink (cn q.1) q.2.1 C ∈ WA) && decide (Cond.instantiable C N ∈ WA) && decide (Cond.initialized C ∈ WA) && (List.range N).all (fun k => match q.2.2.2[k]? with
    | some f => tb_df (ty q.2.2.1 k) f
    | none => false)
  | none => false
theorem tb_chN_of {cl : List vw_C} {WA : List Cond} {ty : Nat → Nat → FieldType} {cn : Nat → String} {o idx ci : Nat} {fs : List (Option (Option Nat))} (hC : tb_Cok cl WA ty) (h : tb_chN cl WA ty cn (o, idx, ci, fs) = true) : sm_No cl WA (cn o) idx ci fs := by
  unfold tb_chN at h
  dsimp only at h
  split at h
  · next C T N hc =>
    obtain ⟨c1, c2, -⟩ := hC ci C T N hc
    simp only [Bool.and_eq_true, decide_eq_true_eq] at h
    obtain ⟨⟨⟨⟨h1, h2⟩, h3⟩, h4⟩, h5⟩ := h
    subst h1
    refine ⟨C, T, ty ci, hc, c1, c2, h2, h3, h4, fun k hk => ?_⟩
    have h6 := List.all_eq_true.mp h5 k (List.mem_range.mpr hk)
    split at h6
    · next f hf =>
      match f with
      | none => exact Or.inl ⟨hf, of_decide_eq_true h6⟩
      | some none => exact Or.inr ⟨hf, of_decide_eq_true h6⟩
      | some (some z) => cases h6
    · cases h6
  · cases h
