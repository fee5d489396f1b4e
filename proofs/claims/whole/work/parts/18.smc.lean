/-! ===== calls that come back ===== -/
/-- what the tables say of the callee z of the entry idx of y's class -/
def sm_Go (cl : List vw_C) (WA NW : List Cond) (nm : Nat → MethodName) (cw : Nat → Cond) (T : sm_T) (y idx k z w : Nat) : Prop :=
  (k = 0 → Cond.methodLink (nm y).cls idx Lib.objectInit ∈ WA ∧ Cond.instanceMethod Lib.objectInit ∈ WA ∧ Cond.code Lib.objectInit ⟨#[0xb1]⟩ 1 none ∈ WA) ∧
  (k = 1 → Cond.methodLink (nm y).cls idx Lib.Math.max.name ∈ WA ∧ Cond.static Lib.Math.max.name ∈ WA ∧ Cond.initialized "java/lang/Math" ∈ WA ∧ Cond.code Lib.Math.max.name Lib.Math.max.code 2 (some .int) ∈ WA) ∧
  (k = 2 → Cond.methodLink (nm y).cls idx arraycopyName ∈ WA ∧ Cond.native arraycopyName ∈ WA ∧ Cond.static arraycopyName ∈ WA ∧ Cond.initialized "java/lang/System" ∈ WA) ∧
  (3 ≤ k → (Cond.methodLink (nm y).cls idx (nm z) ∈ WA ∨ ∃ host, Cond.methodLinkNest (nm y).cls idx (nm z) host ∈ NW) ∧ Cond.initialized (nm z).cls ∈ WA ∧ cw z ∈ WA ∧ plainName (nm z).cls = true ∧ ((nm z).cls ≠ "java/lang/invoke/MethodHandle" ∧ (nm z).cls ≠ "java/lang/invoke/VarHandle" ∧ (parseMethodDescriptor (nm z).desc).map (fun d => d.parameters.length) = some (if k = 3 then w else w - 1)) ∧ (k ≠ 3 → 1 ≤ w) ∧ (sm_nL T z).1 ≤ 40) ∧
  (k = 3 → Cond.static (nm z) ∈ WA) ∧
  (k = 4 → Cond.instanceMethod (nm z) ∈ WA ∧ Cond.selects (nm z).cls (nm z) (nm z) ∈ WA ∧ ∃ q : vw_C, cl[(sm_nL T z).2.2]? = some q ∧ q.1 = (nm z).cls) ∧
  (k = 5 → Cond.instanceMethod (nm z) ∈ WA ∧ (nm z).name = "<init>" ∧ (sm_nL T z).2.1 = 0)
theorem sm_back {p : Program} {l : Launch} {e : Env} {R : Room} {s : State} {m : MethodId} {args : Array Value} {below : List Frame} {meth : Method} {c : Code} {H : Heap} {locs : List Loc} {cells slots mc ms : Nat} {Q : State → Prop} {pc : Nat} {ls : Array Slot} {st0 rest : List Value} {Qa : State → Outcome → State → Prop} {A1 : Nat → Prop}
    (hr : va_Run p l e R s m args below meth c H locs cells slots mc ms (F0 m pc ls st0) rest Qa A1)
    (kk : ∀ (v : Option Value) (st₀ t : State) (L : List Loc), st₀.heap = H → s.WarmedH t.vm → (∀ q ∈ L, A1 q.base) → Qa st₀ (.returned v) t → W p l e R s m args below meth c t.heap (locs ++ L) (cells + mc) (slots + ms) Q (F0 m (pc + 3) ls (v.toList ++ rest))) :
    W p l e R s m args below meth c H locs cells slots Q (F0 m pc ls st0) := by
  intro T hT X
  obtain ⟨v, st₀, t, T', L, h0, X', hL, e1, e2, hq, st⟩ := hr T hT X
  obtain ⟨t2, a1, b1⟩ := kk v st₀ t L h0 (by rw [← e2]; exact X'.warmed) hL hq T' e1 X'
  exact ⟨t2, st t2 a1, b1⟩
theorem sm_good {WA : List Cond} (hG : ∀ w ∈ WA, goodWord w = true) {cwz : Cond} {Ts : List Cond} (hT : ∀ w ∈ WA, w ∈ Ts) (hz : cwz ∈ WA) : GoodIn Ts (cwz :: WA) := by
  intro w hw
  rcases List.mem_cons.mp hw with rfl | hw
  · exact ⟨hT _ hz, good_of_word (hG _ hz)⟩
  · exact ⟨hT _ hw, good_of_word (hG _ hw)⟩
/-- how a callee is called: by kind; the three instructions -/
theorem sm_run345 {p : Program} {l : Launch} {e : Env} {R : Room} {s : State} {m : MethodId} {args : Array Value} {below : List Frame} {meth : Method} {c : Code} {H : Heap} {locs : List Loc} {cells slots mc ms : Nat} {cc bytes : ByteArray} {nL maxL n idx k : Nat} {ret : Option FieldType} {WA NW : List Cond} {rm : Room} {Pc : Array Value → State → Prop} {Qc : Array Value → State → Outcome → State → Prop} {free : Addr → Prop} {own : String} {y : MethodName} {vs rest : List Value} {pc : Nat} {ls : Array Slot}
    (hx : p.tables.exec = Jvm.exec) (hb : c.code = cc) (hml : c.maxLocals = nL) (hown : s.vm.findClass own = some m.cls) (hts : ∀ w ∈ WA, w.before args s = true) (hN : ∀ w ∈ NW, va_Nw w s) (hG : ∀ w ∈ WA, goodWord w = true)
    (hM : Met l y (Cond.code y bytes maxL ret :: WA) rm Pc Qc mc ms free) (hcode : Cond.code y bytes maxL ret ∈ WA) (hrc : rm.cells = mc) (hrs : rm.slots = ms) (hini : Cond.initialized y.cls ∈ WA) (hlk : Cond.methodLink own idx y ∈ WA ∨ ∃ host, Cond.methodLinkNest own idx y host ∈ NW)
    (hds : y.cls ≠ "java/lang/invoke/MethodHandle" ∧ y.cls ≠ "java/lang/invoke/VarHandle" ∧ (parseMethodDescriptor y.desc).map (fun d => d.parameters.length) = some n) (hR : rm.frames + 1 ≤ R.frames ∧ 8 + (maxL + 11) + rm.locals ≤ R.locals)
    (hbl : FrameBlind Pc) (hpre : ∀ U : State, U.heap = H → s.WarmedH U.vm → Pc vs.toArray U) (hsize : ls.size = nL) (hW : (rest.map fun v => v.category).sum ≤ 8) (hf : cells + mc ≤ R.cells ∧ slots + ms ≤ R.slots)
    (hk : (k = 3 ∧ vs.length = n ∧ Cond.static y ∈ WA ∧ decode cc pc = .ok (.invokestatic idx, 3)) ∨
      (k = 4 ∧ vs.length = n + 1 ∧ Cond.instanceMethod y ∈ WA ∧ Cond.selects y.cls y y ∈ WA ∧ (∃ (a : Nat) (vs' : List Value) (cellB : Cell), vs = .ref a :: vs' ∧ H[a]? = some cellB ∧ cellB.vm.isStatics = false ∧ s.vm.findClass y.cls = some cellB.cls) ∧ decode cc pc = .ok (.invokevirtual idx, 3)) ∨
      (k = 5 ∧ vs.length = n + 1 ∧ Cond.instanceMethod y ∈ WA ∧ y.name = "<init>" ∧ ret = none ∧ (∃ (a : Nat) (vs' : List Value), vs = .ref a :: vs') ∧ decode cc pc = .ok (.invokespecial idx, 3))) :
    va_Run p l e R s m args below meth c H locs cells slots mc ms (F0 m pc ls (vs.reverse ++ rest)) rest (Qc vs.toArray) free := by
  have hcf : CallFix p m c cc nL s args WA own := ⟨hx, hb, hml, hown, hts⟩
  have hgd : GoodIn WA (Cond.code y bytes maxL ret :: WA) := sm_good hG (fun _ h => h) hcode
  have hW2 : ∀ st : List Value, 2 * (F0 m pc ls st).monitorRoom + (rest.map fun v => v.category).sum ≤ 8 := by
    intro st
    show 2 * 0 + _ ≤ 8
    omega
  rcases hk with ⟨-, hl, hst, hd⟩ | ⟨-, hl, hin, hse, ⟨a, vs', cellB, rfl, h1, h2, h3⟩, hd⟩ | ⟨-, hl, hin, hnm, hret, ⟨a, vs', rfl⟩, hd⟩
  · rcases hlk with hlk | ⟨host, hlk⟩
    · exact va_runS hcf hM ⟨callB_of n hts hgd rfl hrc hrs (hts _ hini) (hts _ hlk) hds hR, hts _ hst⟩ ⟨hbl, hpre⟩ rfl hl hsize rfl (hW2 _) hd hf
    · exact va_runSN hcf hM ⟨va_cnB n hts hgd rfl hrc hrs (hN _ hlk) (hts _ hini) hds hR, hts _ hst, trivial⟩ ⟨hbl, hpre⟩ rfl hl hsize rfl (hW2 _) hd hf
  · have es : ((Value.ref a :: vs').reverse ++ rest) = vs'.reverse ++ .ref a :: rest := by simp
    rw [es]
    have hl2 : vs'.length = n := by simpa using hl
    rcases hlk with hlk | ⟨host, hlk⟩
    · exact va_runV hcf hM ⟨callB_of n hts hgd rfl hrc hrs (hts _ hini) (hts _ hlk) hds hR, hts _ hin, hts _ hse⟩ ⟨hbl, ⟨cellB, h1, h2, h3⟩, hpre⟩ rfl hl2 hsize rfl (hW2 _) hd hf
    · exact va_runVN hcf hM ⟨va_cnB n hts hgd rfl hrc hrs (hN _ hlk) (hts _ hini) hds hR, hts _ hin, hts _ hse⟩ ⟨hbl, ⟨cellB, h1, h2, h3⟩, hpre⟩ rfl hl2 hsize rfl (hW2 _) hd hf
  · have es : ((Value.ref a :: vs').reverse ++ rest) = vs'.reverse ++ .ref a :: rest := by simp
    rw [es]
    have hl2 : vs'.length = n := by simpa using hl
    subst hret
    rcases hlk with hlk | ⟨host, hlk⟩
    · exact va_runI hcf hM ⟨callB_of n hts hgd rfl hrc hrs (hts _ hini) (hts _ hlk) hds hR, hnm, hts _ hin⟩ ⟨hbl, hpre⟩ rfl hl2 hsize rfl (hW2 _) hd hf
    · exact va_runIN hcf hM ⟨va_cnB n hts hgd rfl hrc hrs (hN _ hlk) (hts _ hini) hds hR, hnm, hts _ hin⟩ ⟨hbl, hpre⟩ rfl hl2 hsize rfl (hW2 _) hd hf
