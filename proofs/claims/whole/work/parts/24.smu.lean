/-! ===== calls that don't come back, and where they are caught ===== -/
section SMU
variable {p : Program} {l : Launch} {e : Env} {R : Room} {s : State} {m : MethodId} {args : Array Value} {below : List Frame} {meth : Method} {c : Code} {H : Heap} {locs : List Loc} {cells slots : Nat}
theorem sm_thrown {mc ms : Nat} {cc bytes : ByteArray} {nL maxL n idx k : Nat} {ret : Option FieldType} {WA NW : List Cond} {rm : Room} {Pc : Array Value → State → Prop} {Qa : State → Addr → State → Prop} {free : Addr → Prop} {own : String} {y : MethodName} {vs rest : List Value} {pc : Nat} {ls : Array Slot}
    (hx : p.tables.exec = Jvm.exec) (hb : c.code = cc) (hml : c.maxLocals = nL) (hown : s.vm.findClass own = some m.cls) (hts : ∀ w ∈ WA, w.before args s = true) (hN : ∀ w ∈ NW, va_Nw w s) (hG : ∀ w ∈ WA, goodWord w = true)
    (hM : sm_MetT l y (Cond.code y bytes maxL ret :: WA) rm Pc Qa mc ms free) (hcode : Cond.code y bytes maxL ret ∈ WA) (hrc : rm.cells = mc) (hrs : rm.slots = ms) (hini : Cond.initialized y.cls ∈ WA) (hlk : Cond.methodLink own idx y ∈ WA ∨ ∃ host, Cond.methodLinkNest own idx y host ∈ NW)
    (hds : y.cls ≠ "java/lang/invoke/MethodHandle" ∧ y.cls ≠ "java/lang/invoke/VarHandle" ∧ (parseMethodDescriptor y.desc).map (fun d => d.parameters.length) = some n) (hR : rm.frames + 1 ≤ R.frames ∧ 8 + (maxL + 11) + rm.locals ≤ R.locals)
    (hbl : FrameBlind Pc) (hpre : ∀ U : State, U.heap = H → s.WarmedH U.vm → Pc vs.toArray U) (hsize : ls.size = nL) (hW : (rest.map fun v => v.category).sum ≤ 8) (hf : cells + mc ≤ R.cells ∧ slots + ms ≤ R.slots)
    (hk : (k = 3 ∧ vs.length = n ∧ Cond.static y ∈ WA ∧ decode cc pc = .ok (.invokestatic idx, 3)) ∨
      (k = 4 ∧ vs.length = n + 1 ∧ Cond.instanceMethod y ∈ WA ∧ Cond.selects y.cls y y ∈ WA ∧ (∃ (a : Nat) (vs' : List Value) (cellB : Cell), vs = .ref a :: vs' ∧ H[a]? = some cellB ∧ cellB.vm.isStatics = false ∧ s.vm.findClass y.cls = some cellB.cls) ∧ decode cc pc = .ok (.invokevirtual idx, 3))) :
    ∀ T : State, T.heap = H → Stand p l e R s m args below meth c T locs cells slots → ∃ (x : Addr) (st₀ t V : State) (Lc : List Loc), st₀.heap = H ∧ Stand p l e R s m args below meth c V (locs ++ Lc) (cells + mc) (slots + ms) ∧ V.heap = t.heap ∧ V.vm = t.vm ∧ Qa st₀ x t ∧ (∀ q ∈ Lc, free q.base) ∧
      ∀ target, Steps p.tables e below ((V.setTop (F0 m pc ls rest)).pushFrame (.throwing x)) target → Steps p.tables e below (T.setTop (F0 m pc ls (vs.reverse ++ rest))) target := by
  intro T hT X
  have hsz2 : ls.size = c.maxLocals := hsize.trans hml.symm
  have hW2 : 2 * (F0 m pc ls rest).monitorRoom + ((F0 m pc ls rest).stack.map fun v => v.category).sum ≤ 8 := by
    show 2 * 0 + _ ≤ 8
    have : ((F0 m pc ls rest).stack.map fun v => v.category).sum = (rest.map fun v => v.category).sum := rfl
    omega
  have hcodeS := hts _ hcode
  obtain ⟨mk, hnamed⟩ := Cond.code_named hcodeS
  obtain ⟨methM, cM, hmethM, -, -, -, -, -, -, hsigM⟩ := Cond.code_spec hnamed hcodeS
  obtain ⟨kP, hkP, -⟩ := className_of_methodNamed hnamed
  have hinitP : kP.init = .initialized := Cond.initialized_spec (findClass_of_methodNamed hnamed) hkP (hts _ hini)
  have hnp : methM.sig.parameters.length = n := by
    have h2 := hds.2.2
    rw [hsigM] at h2
    exact Option.some.inj h2
  have fin : ∀ (vm₁ : Vm) (i2 : Instr), decode c.code pc = .ok (i2, 3) → Stand p l e R s m args below meth c (T.setVm vm₁) locs cells slots → (∀ target, (∀ acts, Steps p.tables e below (doInvoke e ((T.setVm vm₁).setTop (F0 m pc ls rest)) acts mk vs.toArray).1 target) → Steps p.tables e below (T.setTop (F0 m pc ls (vs.reverse ++ rest))) target) →
      ∃ (x : Addr) (st₀ t V : State) (Lc : List Loc), st₀.heap = H ∧ Stand p l e R s m args below meth c V (locs ++ Lc) (cells + mc) (slots + ms) ∧ V.heap = t.heap ∧ V.vm = t.vm ∧ Qa st₀ x t ∧ (∀ q ∈ Lc, free q.base) ∧
      ∀ target, Steps p.tables e below ((V.setTop (F0 m pc ls rest)).pushFrame (.throwing x)) target → Steps p.tables e below (T.setTop (F0 m pc ls (vs.reverse ++ rest))) target := by
    intro vm₁ i2 hd2 X₁ hstep
    have hW₁ : s.WarmedH (T.setVm vm₁).vm := X₁.warmed
    have hwd : ∀ w ∈ WA, w.before vs.toArray (T.setVm vm₁) = true := fun w hw => word_at hW₁ (good_of_word (hG w hw)) (hts w hw)
    obtain ⟨x, t, V, Lc, XV, e1, e2, hq, hLc, hst⟩ := sm_into X₁ (g := F0 m pc ls rest) rfl hsz2 hd2 hW2 (X₁.named hnamed) (vs := vs.toArray) hM (hwd _ hcode) (hwd _ hini) (fun w hw => by
      rcases List.mem_cons.mp hw with rfl | hw
      · exact hwd _ hcode
      · exact hwd _ hw) hrc hrs hR.1 hR.2 hf (hbl _ _ _ _ (hpre _ hT hW₁))
    exact ⟨x, (T.setVm vm₁).calling (F0 m pc ls rest) mk vs.toArray, t, V, Lc, hT, XV, e1, e2, hq, hLc, fun target htg => hstep target (fun acts => (hst acts).trans htg)⟩
  rcases hk with ⟨-, hl, hst, hd⟩ | ⟨-, hl, hin, hse, ⟨a, vs', cellB, rfl, h1, h2, h3⟩, hd⟩
  · have hstatic : methM.isStatic = true := Cond.static_spec hnamed hmethM (hts _ hst)
    have hd' : decode c.code pc = .ok (.invokestatic idx, 3) := by rw [hb]; exact hd
    rcases hlk with hlk | ⟨host, hlk⟩
    · obtain ⟨vm₁, X₁, hstep₁⟩ := X.invokestatic hx hown (hts _ hlk) hnamed hmethM hstatic hkP hinitP ⟨hds.1, hds.2.1⟩ (g := F0 m pc ls (vs.reverse ++ rest)) rfl (argsL := vs) (rest := rest) (hl.trans hnp.symm) rfl hd'
      exact fin vm₁ _ hd' X₁ hstep₁
    · obtain ⟨vm₁, X₁, hstep₁⟩ := X.invokestaticNest hx hown (va_Nw.use rfl (hN _ hlk)) hnamed hmethM hstatic hkP hinitP ⟨hds.1, hds.2.1⟩ (g := F0 m pc ls (vs.reverse ++ rest)) rfl (argsL := vs) (rest := rest) (hl.trans hnp.symm) rfl hd'
      exact fin vm₁ _ hd' X₁ hstep₁
  · have hd' : decode c.code pc = .ok (.invokevirtual idx, 3) := by rw [hb]; exact hd
    have hl2 : vs'.length = methM.sig.parameters.length := by rw [hnp]; simpa using hl
    obtain ⟨mk', methM', hnamed', hmethM', hstM, habM⟩ := Cond.instanceMethod_spec (hts _ hin)
    cases hnamed.symm.trans hnamed'
    cases hmethM.symm.trans hmethM'
    obtain ⟨c2, r2, m2, q1, q2, q3, q4, kP2, hkP2, hkPi⟩ := Cond.selects_spec (hts _ hse)
    cases h3.symm.trans q1
    cases (State.methodFound?_of_named hnamed ⟨hds.1, hds.2.1⟩).symm.trans q2
    cases hnamed.symm.trans q3
    have hselP : selectMethod e.platform s.vm cellB.cls mk = .method mk := by rw [Launch.admits_selectMethod X.admits]; exact q4
    have es : ((Value.ref a :: vs').reverse ++ rest) = vs'.reverse ++ .ref a :: rest := by simp
    rw [es] at fin ⊢
    rcases hlk with hlk | ⟨host, hlk⟩
    · obtain ⟨vm₁, X₁, hstep₁⟩ := X.invokevirtual hx hown (hts _ hlk) hnamed hmethM hstM hkP2 hkPi ⟨hds.1, hds.2.1⟩ (a := a) (cell := cellB) (by rw [hT]; exact h1) (fun z hz => by rw [hz] at h2; cases h2) hselP hmethM habM hkP2 hkPi (g := F0 m pc ls (vs'.reverse ++ .ref a :: rest)) rfl (argsL := vs') (rest := rest) hl2 rfl hd'
      exact fin vm₁ _ hd' X₁ hstep₁
    · obtain ⟨vm₁, X₁, hstep₁⟩ := X.invokevirtualNest hx hown (va_Nw.use rfl (hN _ hlk)) hnamed hmethM hstM hkP2 hkPi ⟨hds.1, hds.2.1⟩ (a := a) (cell := cellB) (by rw [hT]; exact h1) (fun z hz => by rw [hz] at h2; cases h2) hselP hmethM habM hkP2 hkPi (g := F0 m pc ls (vs'.reverse ++ .ref a :: rest)) rfl (argsL := vs') (rest := rest) hl2 rfl hd'
      exact fin vm₁ _ hd' X₁ hstep₁
/-- a class of a handler that may not be resolved yet -/
theorem sm_go_cls {e : Env} {s : State} {f : JFrame} {a : Addr} {x : ExceptionTableEntry} {t : List ExceptionTableEntry} {c : ClassId} {cell : Cell} {vm' : Vm} (hx : covers x f.pc = true) (h0 : x.catchType ≠ 0)
    (hg : (Jvm.resolveClass f.method.cls x.catchType).Gives e.toSetting s.vm (.ok c) vm') (hsz : vm'.classes.size ≤ s.vm.classes.size) (hcell : s.heap[a]? = some cell) (hobj : ∀ k, cell.vm ≠ .statics k)
    (hk : ∃ k, vm'.classes[cell.cls]? = some k) (hc : ∃ k, vm'.classes[c]? = some k) (Q : Handler → Pre) (E : CtlPost) (d : Bool) (acts : List Action) :
    wp (findHandler.go f a (x :: t)) Q E e d acts s ↔ if vm'.assignable cell.cls c = true then Q (.found x.handlerPc) d acts (s.setVm vm') else wp (findHandler.go f a t) Q E e d acts (s.setVm vm') := by
  simp only [covers] at hx
  obtain ⟨ha, ht⟩ := hg.op (op := VmOp.resolveClass f.method.cls x.catchType) rfl
  have hcell' : (s.setVm vm').heap[a]? = some cell := hcell
  have hvm : (s.setVm vm').vm = vm' := rfl
  cases hfit : vm'.assignable cell.cls c <;>
    simp [findHandler.go, hx, h0, ha, ht, hsz, hcell, hobj, hk, hc, hfit, hvm, VmOp.dirties, VmOp.acts]
/-- a handler is found, at warmer tables -/
def sm_Fd (e : Env) (s : State) (f : JFrame) (a : Addr) (pc : Nat) (vm' : Vm) : Prop := ∀ (Q : Handler → Pre) (E : CtlPost) (d : Bool) (acts : List Action), wp (findHandler f a) Q E e d acts s ↔ Q (.found pc) d acts (s.setVm vm')
theorem sm_stepCatch {e : Env} {s : State} {a : Addr} {f : JFrame} {r : List Frame} {pc : Nat} {vm' : Vm} (hfind : sm_Fd e s f a pc vm') :
    (stepThrowing e s a (.java f :: r)).Is ((s.setVm vm').setFrames (.java { f with pc := pc, stack := [.ref a] } :: r)) [] := by
  simp only [stepThrowing, searchFrame, vmDo]
  generalize hr : Sem.go _ e false [] s = res
  obtain ⟨as, rfl, ha⟩ := Sem.eq_ok_of hr (a := Handler.found pc) (s' := s.setVm vm') (acts' := []) (by simp [hfind _ _ _ _])
  exact ⟨rfl, ha⟩
theorem sm_caught {tb : Tables} {e : Env} {s target : State} {g : JFrame} {c : Code} {below : List Frame} {a : Addr} {vm' : Vm} (h : At s g.method c below) {pc : Nat} (hfind : sm_Fd e ((s.setTop g).pushFrame (.throwing a)) g a pc vm')
    (hrest : Steps tb e below ((s.setVm vm').setTop { g with pc := pc, stack := [.ref a] }) target) :
    Steps tb e below ((s.setTop g).pushFrame (.throwing a)) target := by
  obtain ⟨hgo, hw⟩ := h.throwing a
  refine Steps.head hgo hw ?_
  rw [stepThread_throwing (frames_entered h.top _), (sm_stepCatch (s := (s.setTop g).pushFrame (.throwing a)) hfind).1]
  obtain ⟨g₀, hg⟩ := Option.isSome_iff_exists.mp h.top
  obtain ⟨r, hr⟩ := State.topJava?_eq_some.mp hg
  have hr' : (s.setVm vm').frames = .java g₀ :: r := hr
  rw [State.setTop_of_frames _ hr'] at hrest
  have es : ((((s.setTop g).pushFrame (.throwing a)).setVm vm').setFrames (.java { g with pc := pc, stack := [.ref a] } :: s.frames.tail)) = (s.setVm vm').setFrames (.java { g with pc := pc, stack := [.ref a] } :: r) := by
    rw [hr, State.pushFrame, State.setTop_of_frames _ hr, State.setFrames_setFrames]
    show ((s.setVm vm').setFrames _).setFrames _ = _
    rw [State.setFrames_setFrames]
    rfl
  rw [es]
  exact hrest
end SMU
section SMV
variable {p : Program} {l : Launch} {e : Env} {R : Room} {s : State} {m : MethodId} {args : Array Value} {below : List Frame} {meth : Method} {c : Code} {locs : List Loc} {cells slots : Nat}
theorem sm_asg_refl (vm : Vm) (c : ClassId) : vm.assignable c c = true := by
  show vm.assignableAux (255 + 1) c c = true
  rw [Vm.assignableAux]
  simp
/-- the search through handlers, each by the number of its class among XC -/
theorem sm_find {XC : Nat → String} {own : String} {g : JFrame} {x : Nat} {a : Addr} {cell : Cell} (hl : l.admits e) (hown : s.vm.findClass own = some g.method.cls) (hobj : cell.vm.isStatics = false) (hcls : s.vm.findClass (XC x) = some cell.cls) (hx2 : x < 2) (hNC : ∀ i j, i < 2 → j < 2 → i ≠ j → ∀ c t, s.vm.findClass (XC i) = some c → s.vm.findClass (XC j) = some t → s.vm.assignable c t = false) :
    ∀ (hs : List (ExceptionTableEntry × Nat)), (∀ q ∈ hs, covers q.1 g.pc = true ∧ q.1.catchType ≠ 0 ∧ (Cond.classLink own q.1.catchType (XC q.2)).before args s = true ∧ q.2 < 2) → ∀ hpc, (hs.find? (fun q => q.2 == x)).map (fun q => q.1.handlerPc) = some hpc →
      ∀ V : State, V.heap[a]? = some cell → s.WarmedH V.vm → ∃ vm', s.WarmedH vm' ∧ ∀ (Q : Handler → Pre) (E : CtlPost) (d : Bool) (acts : List Action), wp (findHandler.go g a (hs.map (fun q => q.1))) Q E e d acts V ↔ Q (.found hpc) d acts (V.setVm vm') := by
  intro hs
  induction hs with
  | nil => intro _ hpc h; cases h
  | cons q r ih =>
    intro hq hpc hf V hV hW
    obtain ⟨h1, h2, h3, hq2⟩ := hq q List.mem_cons_self
    have hpl : e.platform.magicAccessors = ({} : Platform).magicAccessors := by rw [hl.platform]
    obtain ⟨cT, hcT, hcl⟩ := Cond.classLink_spec hown h3 e.platform hpl
    obtain ⟨dk, _, _, kt, hd, _, _, _, _, hkt, _, hopen⟩ := hcl.here
    have hcl₀ := hW.classLinks hcl
    have hW' : s.WarmedH (V.vm.noted g.method.cls q.1.catchType (.cls cT)) := hW.noted hd hopen (State.rightAt_cls hcl)
    obtain ⟨ks, hks⟩ := Vm.classAt_of_findClass hcls
    obtain ⟨ks', hks', -⟩ := hW'.alike.2.2 _ _ hks
    obtain ⟨kt', hkt', -⟩ := hW'.alike.2.2 _ _ hkt
    have key := fun (Q : Handler → Pre) (E : CtlPost) (d : Bool) (acts : List Action) => sm_go_cls (e := e) (s := V) (f := g) (a := a) (x := q.1) (t := r.map (fun q => q.1)) (cell := cell) h1 h2 (resolveClass_links e.toSetting hcl₀) (by rw [Vm.size_note]; exact Nat.le_refl _) hV (VmData.ne_statics_of hobj) ⟨ks', hks'⟩ ⟨kt', hkt'⟩ Q E d acts
    have hal : (V.vm.noted g.method.cls q.1.catchType (.cls cT)).assignable cell.cls cT = s.vm.assignable cell.cls cT := hW'.alike.assignable ..
    by_cases hx : q.2 = x
    · subst hx
      rw [List.find?_cons_of_pos (by simp)] at hf
      cases hf
      cases hcls.symm.trans hcT
      refine ⟨_, hW', fun Q E d acts => ?_⟩
      rw [List.map_cons, key Q E d acts, if_pos (by rw [hal]; exact sm_asg_refl _ _)]
    · rw [List.find?_cons_of_neg (by simpa using hx)] at hf
      obtain ⟨vm', hW2, h4⟩ := ih (fun z hz => hq z (List.mem_cons_of_mem _ hz)) hpc hf (V.setVm (V.vm.noted g.method.cls q.1.catchType (.cls cT))) hV hW'
      refine ⟨vm', hW2, fun Q E d acts => ?_⟩
      rw [List.map_cons, key Q E d acts, if_neg (by rw [hal, hNC x q.2 hx2 hq2 (Ne.symm hx) _ _ hcls hcT]; decide), h4 Q E d acts]
      rfl
end SMV
