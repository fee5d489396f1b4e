/-! ===== the law's start ===== -/
/-! THE CLAIM OUT OF ONE WALK OF THE LAW'S BODY. Your part is whole_start (and what it stands on); all else here is the same for every law, but numbers. -/
def R_law : String := "VaultDevicesLaw"
def lw_P (b : Addr) (xs : List Int32) (args : Array Value) (s : State) : Prop := args = #[.ref b] ∧ s.IntsAt b xs ∧ xs.length ≤ 2048 ∧ (Jvm.Cond.and given_1 narrow_1).before args s = true
def lw_Q (_ : Array Value) (s : State) (o : Outcome) (t : State) : Prop := o = .returned (some (.int 1)) ∧ Framed s o t [] 601024 7293034
def lw_Z (below : List Frame) (a : Array Value) (s : State) : State → Prop := fun t => ∃ o, t.status = .running ∧ Ended t below o ∧ lw_Q a s o t
/-- the law's own end, with 1 on the stack, nothing written that was there before, its room as the claim has it -/
theorem lw_ret {p : Program} {l : Launch} {e : Env} {s : State} {m : MethodId} {below : List Frame} {meth : Method} {c : Code} {b : Nat} (hx : p.tables.exec = Jvm.exec) (hb : c.code = code) (hr : meth.sig.returnType = ret) (hlocks : meth.locks = false) {pc : Nat} {H : Heap} {ls : Array Slot} (hdg : decode code pc = .ok (.ireturn, 1)) : W p l e room_1 s m #[Value.ref b] below meth c H [] 601024 7293034 (lw_Z below #[Value.ref b] s) (F0 m pc ls [.int 1]) := by
  intro T hT X
  obtain ⟨fs, hret, hrun, hended, hW, hframe⟩ := X.leave (v := some (.int 1)) (hlocks := hlocks) (fun h => by rw [hr] at h; cases h)
  have hmeth' : T.vm.method? m = some meth := X.method'
  refine ⟨T.setFrames fs, ?_, .returned (some (.int 1)), hrun, hended, rfl, ⟨_, rfl⟩, hW, hframe⟩
  jvm_step X.here [X.here.top, hx, hb, hdg, hmeth', hr, ret, narrow_b1]
  (try refine ⟨rfl, ?_⟩); (try refine ⟨rfl, ?_⟩)
  first | (intro acts; rw [hret _ acts rfl rfl rfl]) | rw [hret _ _ rfl rfl rfl]
  exact Steps.refl _
/-- what holds at the law's entry: the machine, the code, the tables' words (any of lw_tbl by 'hts w (by decide +kernel)'), the script of L ints xs at the cell b, what the Statement gives of the start (any of its parts by flat_of_before) -/
def lw_At (p : Program) (s : State) (m : MethodId) (meth : Method) (c : Code) (b L : Nat) (xs : Nat → Int32) : Prop :=
  p.tables.exec = Jvm.exec ∧ c.code = code ∧ meth.sig.returnType = ret ∧ c.maxLocals = 7 ∧ s.vm.findClass R_law = some m.cls ∧ (∀ w ∈ lw_tbl, w.before #[Value.ref b] s = true) ∧ va_X b L xs s s.heap ∧ b < s.heap.size ∧ meth.locks = false ∧ (Jvm.Cond.and given_1 narrow_1).before #[Value.ref b] s = true

theorem tx_W_mono {p : Program} {l : Launch} {e : Env} {R : Room} {s : State} {m : MethodId} {args : Array Value} {below : List Frame} {meth : Method} {c : Code} {H : Heap} {locs : List Loc} {cells slots : Nat} {Q Q' : State → Prop} {g : JFrame} (h : W p l e R s m args below meth c H locs cells slots Q g) (hq : ∀ t, Q t → Q' t) : W p l e R s m args below meth c H locs cells slots Q' g := by
  intro T hT X
  obtain ⟨t, a, b⟩ := h T hT X
  exact ⟨t, a, hq t b⟩
/-- nothing that was there before was written, and no more was made than the claim has room for -/
theorem tx_same0 {s t : State} {L : List Loc} {k n k' n' : Nat} (h : s.sameButNew t L k n) (hL : ∀ q ∈ L, s.heap.size ≤ q.base) (hk : k ≤ k') (hn : n ≤ n') : s.sameButNew t [] k' n' := by
  obtain ⟨h1, h2, h3, h4, h5, h6⟩ := h
  refine ⟨h1, h2, by omega, h4, by omega, fun a c hc => ?_⟩
  obtain ⟨c', g1, g2, g3, g4⟩ := h6 a c hc
  refine ⟨c', g1, g2, g3, fun i _ => g4 i fun hm => ?_⟩
  have h9 := hL _ hm
  have h8 := (Array.getElem?_eq_some_iff.mp hc).1
  have h7 : s.heap.size ≤ a := h9
  omega
def tx_h0 : sm_H := ([], fun _ _ => 0, fun _ _ => 0, 601024, 7293034)
set_option maxHeartbeats 4000000 in
/-- a run of the small machine from the law's start that answers 1 gives the law's own walk -/
theorem tx_start {p : Program} {e : Env} {s : State} {m : MethodId} {below : List Frame} {meth : Method} {c : Code} (l : Launch) (hfl : l.flags = flags0) {b L : Nat} {xs : Nat → Int32} (C0 : lw_At p s m meth c b L xs) (hno : c.exceptionTable.toList = []) (hname : meth.name = "law") {n : Nat} {h' : sm_H}
    (hrun : sm_run tb_T (L, xs) tb_ok n 11 388 139 0 (sm_ent 7 [.retAddr 0]) [] tx_h0 = some (.inl (some (.int 1)), h')) : W p l e room_1 s m #[Value.ref b] below meth c s.heap [] 0 0 (lw_Z below #[Value.ref b] s) (entryFrame m ([Value.ref b] : List Value).toArray 7) := by
  obtain ⟨hx, hb, hret, hml, hown, hts0, hX, hbl, hlocks, hgv⟩ := C0
  have hts : ∀ w ∈ tb_WA, w.before #[Value.ref b] s = true := fun w hw => hts0 w (List.mem_filter.mp hw).1
  have hN : ∀ w ∈ tb_NW, va_Nw w s := fun w hw => by
    have h1 := hts0 w (List.mem_append_right _ (List.mem_filter.mp hw).1)
    have h2 := (List.mem_filter.mp hw).2
    cases w <;> first | exact va_Nw.of rfl h1 | (simp [tb_nest] at h2)
  have hflat := flat_of_before _ hgv
  have hAO : va_AO "VaultDevices$Device" s := va_AO.of (hts0 (.arrayOver (.object "VaultDevices$Device")) (by decide +kernel))
  obtain ⟨c0, i0, k0⟩ := u_known (n := 6) hts tb_w0 (hts (.instantiable "VaultDevices" 6) (by decide +kernel))
  obtain ⟨c1, i1, k1⟩ := u_known (n := 7) hts tb_w1 (hts (.instantiable "VaultDevices$Terms" 7) (by decide +kernel))
  obtain ⟨c2, i2, k2⟩ := u_known (n := 3) hts tb_w2 (hts (.instantiable "VaultDevices$Seals" 3) (by decide +kernel))
  obtain ⟨c3, i3, k3⟩ := u_known (n := 5) hts tb_w3 (hts (.instantiable "VaultDevices$Mail" 5) (by decide +kernel))
  obtain ⟨c4, i4, k4⟩ := u_known (n := 4) hts tb_w4 (hts (.instantiable "VaultDevices$Device" 4) (by decide +kernel))
  obtain ⟨c5, i5, k5⟩ := u_known (n := 7) hts tb_w5 (hts (.instantiable "VaultDevices$State" 7) (by decide +kernel))
  obtain ⟨c6, i6, k6⟩ := u_known (n := 28) hts tb_w6 (hts (.instantiable "VaultDevicesModel" 28) (by decide +kernel))
  obtain ⟨a0, ka0, cm0, f01, f02, f03⟩ := Cond.arrayClass_spec (hts (.arrayClass .int) (by decide +kernel))
  obtain ⟨a1, ka1, cm1, f11, f12, f13⟩ := Cond.arrayClass_spec (hts (.arrayClass .boolean) (by decide +kernel))
  obtain ⟨a2, ka2, cm2, f21, f22, f23⟩ := Cond.arrayClass_spec (hts (.arrayClass .long) (by decide +kernel))
  obtain ⟨cm3, a3, ka3, f31, f32, f33, f34, f35⟩ := Cond.arrayOver_spec hAO
  let D : va_G := (fun c => match c with
    | 0 => c0
    | 1 => c1
    | 2 => c2
    | 3 => c3
    | 4 => c4
    | 5 => c5
    | _ => c6, fun c => match c with
    | 0 => i0
    | 1 => i1
    | 2 => i2
    | 3 => i3
    | 4 => i4
    | 5 => i5
    | _ => i6)
  let cA : Nat → ClassId := fun t => match t with
    | 0 => a0
    | 1 => a1
    | 2 => a2
    | _ => a3
  have hK : va_K D tb_cl (sm_tys cA tb_tyN) s := by
    refine ⟨fun c q h => ?_, fun k q h => ?_⟩
    · match c, h with
      | 0, h => cases h; exact k0
      | 1, h => cases h; exact k1
      | 2, h => cases h; exact k2
      | 3, h => cases h; exact k3
      | 4, h => cases h; exact k4
      | 5, h => cases h; exact k5
      | 6, h => cases h; exact k6
      | n + 7, h => exact absurd (List.getElem?_eq_some_iff.mp h).1 (by show ¬ n + 7 < 7; omega)
    · have r3 : ArrOfT s a3 (.object "VaultDevices$Device") ∧ va_RA s a3 (.object "VaultDevices$Device") := ⟨fun N z => ⟨(fun k h => by cases h), ka3, f33, cm3, f34⟩, ka3, cm3, f33, f34, f31, f35⟩
      match k, h with
      | 0, h => cases h; exact ⟨fun N z => ⟨(fun k h => by cases h), ka0, f02, cm0, f03⟩, f01⟩
      | 1, h => cases h; exact ⟨fun N z => ⟨(fun k h => by cases h), ka1, f12, cm1, f13⟩, f11⟩
      | 2, h => cases h; exact ⟨fun N z => ⟨(fun k h => by cases h), ka2, f22, cm2, f23⟩, f21⟩
      | 3, h => cases h; exact r3
      | 4, h => cases h; exact r3
      | 5, h => cases h; exact r3
      | n + 6, h => exact absurd (List.getElem?_eq_some_iff.mp h).1 (by show ¬ n + 6 < 6; omega)
  have hfx : ∀ (q : Nat) (cell : Cell), s.heap[q]? = some cell → cell.vm.isStatics = true → q < s.heap.size := fun q cell h _ => (Array.getElem?_eq_some_iff.mp h).1
  have nc : ∀ (A B : String), (Cond.not (Cond.castable A B)).before #[Value.ref b] s = true → ∀ c t, s.vm.findClass A = some c → s.vm.findClass B = some t → s.vm.assignable c t = false := by
    intro A B h c t hc ht
    simp only [Cond.before, Cond.holds, Cond.value, hc, ht] at h
    simpa using h
  have hKT : tx_KT b (L, xs) (fun q => q < s.heap.size) s := by
    refine ⟨hX, tx_sf_of hfx (hts0 (.laysStatic "java/lang/Throwable" "UNASSIGNED_STACK" "[Ljava/lang/StackTraceElement;") (by decide +kernel)) (hflat (.isRef (.static "java/lang/Throwable" "UNASSIGNED_STACK" "[Ljava/lang/StackTraceElement;")) (by decide +kernel)), tx_sf_of hfx (hts0 (.laysStatic "java/lang/Throwable" "SUPPRESSED_SENTINEL" "Ljava/util/List;") (by decide +kernel)) (hflat (.isRef (.static "java/lang/Throwable" "SUPPRESSED_SENTINEL" "Ljava/util/List;")) (by decide +kernel)), ?_, ?_, ?_, ?_⟩
    · obtain ⟨a, _, _, _, q1, -⟩ := Cond.exactly_spec (args := #[Value.ref b]) (first := s) (o := none) (s := s) (idx := []) (t := .string "VaultDevices" 188) (cls := "java/lang/String") (hflat (.exactly (.string "VaultDevices" 188) "java/lang/String") (by decide +kernel))
      exact ⟨a, vk_R.of (hts0 (.stringRef "VaultDevices" 188 tx_t1) (by decide +kernel)) q1⟩
    · obtain ⟨a, _, _, _, q1, -⟩ := Cond.exactly_spec (args := #[Value.ref b]) (first := s) (o := none) (s := s) (idx := []) (t := .string "VaultDevices" 195) (cls := "java/lang/String") (hflat (.exactly (.string "VaultDevices" 195) "java/lang/String") (by decide +kernel))
      exact ⟨a, vk_R.of (hts0 (.stringRef "VaultDevices" 195 tx_t2) (by decide +kernel)) q1⟩
    · intro i j hi hj hij
      rcases (by omega : (i = 0 ∧ j = 1) ∨ (i = 1 ∧ j = 0)) with ⟨rfl, rfl⟩ | ⟨rfl, rfl⟩
      · exact nc _ _ (hflat (.not (.castable "java/lang/IllegalArgumentException" "java/lang/IllegalStateException")) (by decide +kernel))
      · exact nc _ _ (hflat (.not (.castable "java/lang/IllegalStateException" "java/lang/IllegalArgumentException")) (by decide +kernel))
    · intro y hy
      have h9 : Cond.declares y ∈ lw_tbl := (by decide +kernel : ∀ y ∈ tx_ds, Cond.declares y ∈ lw_tbl) y hy
      exact va_Nw.of rfl (hts0 _ h9)
  have MT := sm_all (l := l) (D := D) (cA := cA) (b := b) (X := (L, xs)) (fx := fun q => q < s.heap.size) (KT := tx_KT b (L, xs) (fun q => q < s.heap.size)) (XC := tb_XC) (eh := tb_eh) tb_Tab (tx_Mv hbl) tb_good tb_CB tb_CW tb_XN tb_XB (fun U h => h.2.2.2.2.2.1) tb_TE (tx_Th hfl) n
  have W0 := MT 11 388 139 0 (sm_ent 7 [.retAddr 0]) [] tx_h0 (.inl (some (.int 1))) h' hrun p e room_1 s m #[Value.ref b] below meth c (fun q => s.heap.size ≤ q) (fun _ => 0) 0 601024 7293034 hx hb hml hret hlocks hown hname hno hts ⟨hK, hN, fun C hC => by rw [List.mem_singleton.mp hC]; exact hAO, hKT⟩ (fun q hq => ⟨hq, Nat.not_le.mpr hq⟩) (fun _ h => h) (Nat.zero_le _) ⟨Nat.le_refl _, Nat.le_refl _⟩ ⟨Nat.sub_le _ _, Nat.sub_le _ _⟩ (Nat.le_refl _) (Nat.le_refl _)
  rw [lg_entry_eq]
  have W1 := W0 (fun _ => 0) s.heap [] _ (fun _ _ => rfl) (fun k q h => by cases h) ⟨fun i j x y h => (by cases h), fun k q h => (by cases h)⟩ va_S.rf (sm_entry (b := b) (ad := fun _ => 0) (n := 7) (vs := [.retAddr 0]) (by decide) (by decide))
  refine tx_W_mono W1 (fun t ht => ?_)
  obtain ⟨o, t1, t2, ⟨⟨ad', -, ho, -⟩, -⟩, Lc, ⟨t4, t5, t6⟩, t7⟩ := ht
  subst ho
  exact ⟨_, t1, t2, rfl, t4, t5, tx_same0 t6 t7 (Nat.sub_le _ _) (Nat.sub_le _ _)⟩
