/-! ===== what every state has besides the tables: the script, Throwable's statics, two Strings, two classes apart ===== -/
def tx_sf (fx : Nat → Prop) (o n d : String) (U : State) : Prop := ∃ (c : ClassId) (k : Class) (i : Nat) (f : Field) (a : Nat) (cell : Cell) (v : Value), U.vm.findClass o = some c ∧ U.fieldFound? o n d = some (c, k, i, f) ∧ f.isStatic = true ∧ k.statics = some a ∧ U.heap[a]? = some cell ∧ cell.vm.isStatics = true ∧ cell.cls = c ∧ f.slot < cell.slots.size ∧ k.staticTypes[f.slot]? = some f.type ∧ cell.slots[f.slot]? = some v ∧ (v = .null ∨ ∃ t, v = .ref t) ∧ fx a
theorem tx_sf_mv {fx : Nat → Prop} {o n d : String} {U V : State} (hW : U.WarmedH V.vm) (hq : ∀ q, fx q → V.heap[q]? = U.heap[q]?) (h : tx_sf fx o n d U) : tx_sf fx o n d V := by
  obtain ⟨c, k, i, f, a, cell, v, h1, h2, h3, h4, h5, h6, h7, h8, h9, h10, h11, h12⟩ := h
  obtain ⟨k', hk', he⟩ := State.fieldFound?_setVm hW.alike h2
  exact ⟨c, k', i, f, a, cell, v, by rw [hW.alike.findClass]; exact h1, hk', h3, by rw [he]; exact h4, by rw [hq a h12]; exact h5, h6, h7, h8, by rw [he]; exact h9, h10, h11, h12⟩
theorem tx_sf_ls {fx : Nat → Prop} {o n d : String} {U : State} {A : Array Value} (h : tx_sf fx o n d U) : (Cond.laysStatic o n d).before A U = true := by
  obtain ⟨c, k, i, f, a, cell, v, h1, h2, h3, h4, h5, h6, h7, h8, h9, -⟩ := h
  simp [Cond.before, Cond.holds, Cond.value, h1, h2, h3, h4, h5, h6, h7, h8, h9]
theorem tx_sf_ir {fx : Nat → Prop} {o n d : String} {U : State} {A : Array Value} (h : tx_sf fx o n d U) : (Cond.isRef (.static o n d)).before A U = true := by
  obtain ⟨c, k, i, f, a, cell, v, h1, h2, h3, h4, h5, h6, h7, h8, h9, h10, h11, -⟩ := h
  rcases h11 with rfl | ⟨t, rfl⟩
  · simp [Cond.before, Cond.holds, Cond.value, Term.eval, State.fieldNamed?, h2, h3, h4, h5, h6, h10]
  · simp [Cond.before, Cond.holds, Cond.value, Term.eval, State.fieldNamed?, h2, h3, h4, h5, h6, h10]
theorem tx_sf_of {fx : Nat → Prop} {o n d : String} {U : State} {A : Array Value} (hfx : ∀ (q : Nat) (cell : Cell), U.heap[q]? = some cell → cell.vm.isStatics = true → fx q) (h1 : (Cond.laysStatic o n d).before A U = true) (h2 : (Cond.isRef (.static o n d)).before A U = true) : tx_sf fx o n d U := by
  obtain ⟨c, k, i, f, a, cell, g1, g2, g3, g4, g5, g6, g7, g8, g9⟩ := Cond.laysStatic_spec h1
  cases hv : (Term.static o n d).eval A U none [] U with
  | none => simp [Cond.before, Cond.holds, Cond.value, hv] at h2
  | some w =>
    obtain ⟨-, a', cell', k1, k2, -, k4⟩ := Term.static_spec g2 hv
    cases g4.symm.trans k1
    cases g5.symm.trans k2
    refine ⟨c, k, i, f, a, cell, w, g1, g2, g3, g4, g5, g6, g7, g8, g9, k4, ?_, hfx a cell g5 g6⟩
    simp only [Cond.before, Cond.holds, Cond.value, hv] at h2
    cases w with
    | null => exact Or.inl rfl
    | ref t => exact Or.inr ⟨t, rfl⟩
    | _ => simp at h2
def tx_IA : String := "java/lang/IllegalArgumentException"
def tx_IS : String := "java/lang/IllegalStateException"
def tx_t1 : String := "no such device, password, item or content"
def tx_t2 : String := "the device is locked"
def tx_ds : List MethodName := [⟨"java/lang/RuntimeException", "<init>", "(Ljava/lang/String;)V"⟩, ⟨"java/lang/Exception", "<init>", "(Ljava/lang/String;)V"⟩, ⟨"java/lang/Throwable", "<init>", "(Ljava/lang/String;)V"⟩]
def tx_KT (b : Nat) (X : Nat × (Nat → Int32)) (fx : Nat → Prop) (U : State) : Prop :=
  va_X b X.1 X.2 U U.heap ∧ tx_sf fx "java/lang/Throwable" "UNASSIGNED_STACK" "[Ljava/lang/StackTraceElement;" U ∧ tx_sf fx "java/lang/Throwable" "SUPPRESSED_SENTINEL" "Ljava/util/List;" U ∧
  (∃ q, vk_R "VaultDevices" 188 tx_t1 q U) ∧ (∃ q, vk_R "VaultDevices" 195 tx_t2 q U) ∧ (∀ i j, i < 2 → j < 2 → i ≠ j → ∀ c t, U.vm.findClass (tb_XC i) = some c → U.vm.findClass (tb_XC j) = some t → U.vm.assignable c t = false) ∧ ∀ y ∈ tx_ds, va_Nw (.declares y) U
theorem tx_Mv {b : Nat} {X : Nat × (Nat → Int32)} {fx : Nat → Prop} (hb : fx b) : sm_Mv tb_NW b X fx (tx_KT b X fx) := by
  refine ⟨fun w hw => ?_, fun U V hW hq h => ?_, fun U h => h.1, hb⟩
  · have h := (List.mem_filter.mp hw).2
    cases w <;> first | exact Or.inl ⟨_, _, _, _, _, _, rfl⟩ | exact Or.inr ⟨_, _, _, _, rfl⟩ | (simp [tb_nest] at h)
  · obtain ⟨h1, h2, h3, ⟨q4, h4⟩, ⟨q5, h5⟩, h6, h7⟩ := h
    refine ⟨(h1.moved hW.alike).kept (hq b hb), tx_sf_mv hW hq h2, tx_sf_mv hW hq h3, ⟨q4, h4.warm hW⟩, ⟨q5, h5.warm hW⟩, fun i j hi hj hij c t hc ht => ?_, fun y hy => (h7 y hy).warmD hW⟩
    rw [hW.alike.findClass] at hc ht
    rw [hW.alike.assignable]
    exact h6 i j hi hj hij c t hc ht
theorem tx_own1 : ∀ a ∈ Bundle.ownAtoms "VaultDevices" 190 tx_IA ["java/lang/RuntimeException", "java/lang/Exception"], a ∈ tb_WA ∨ a = .laysStatic "java/lang/Throwable" "UNASSIGNED_STACK" "[Ljava/lang/StackTraceElement;" ∨ a = .laysStatic "java/lang/Throwable" "SUPPRESSED_SENTINEL" "Ljava/util/List;" ∨ a = .isRef (.static "java/lang/Throwable" "UNASSIGNED_STACK" "[Ljava/lang/StackTraceElement;") ∨ a = .isRef (.static "java/lang/Throwable" "SUPPRESSED_SENTINEL" "Ljava/util/List;") ∨ a = .castable tx_IA tx_IA ∨ a = .declares ⟨"java/lang/RuntimeException", "<init>", "(Ljava/lang/String;)V"⟩ ∨ a = .declares ⟨"java/lang/Exception", "<init>", "(Ljava/lang/String;)V"⟩ ∨ a = .declares ⟨"java/lang/Throwable", "<init>", "(Ljava/lang/String;)V"⟩ := by decide +kernel
theorem tx_own2 : ∀ a ∈ Bundle.ownAtoms "VaultDevices" 197 tx_IS ["java/lang/RuntimeException", "java/lang/Exception"], a ∈ tb_WA ∨ a = .laysStatic "java/lang/Throwable" "UNASSIGNED_STACK" "[Ljava/lang/StackTraceElement;" ∨ a = .laysStatic "java/lang/Throwable" "SUPPRESSED_SENTINEL" "Ljava/util/List;" ∨ a = .isRef (.static "java/lang/Throwable" "UNASSIGNED_STACK" "[Ljava/lang/StackTraceElement;") ∨ a = .isRef (.static "java/lang/Throwable" "SUPPRESSED_SENTINEL" "Ljava/util/List;") ∨ a = .castable tx_IS tx_IS ∨ a = .declares ⟨"java/lang/RuntimeException", "<init>", "(Ljava/lang/String;)V"⟩ ∨ a = .declares ⟨"java/lang/Exception", "<init>", "(Ljava/lang/String;)V"⟩ ∨ a = .declares ⟨"java/lang/Throwable", "<init>", "(Ljava/lang/String;)V"⟩ := by decide +kernel
