/-! ===== callees with handlers; callees that throw, by the main theorem's word ===== -/
theorem sm_runSW {p : Program} {l : Launch} {e : Env} {R : Room} {s : State} {m : MethodId} {args : Array Value} {below : List Frame} {meth : Method} {c : Code} {H : Heap} {locs : List Loc} {cells slots mc ms : Nat} {cc bytes : ByteArray} {nL maxL n idx : Nat} {ret : Option FieldType} {hh : List (Nat × Nat × Nat × Nat)} {WA : List Cond} {rm : Room} {Pc : Array Value → State → Prop} {Qc : Array Value → State → Outcome → State → Prop} {free : Addr → Prop} {own : String} {y : MethodName} {vs rest : List Value} {pc : Nat} {ls : Array Slot}
    (hx : p.tables.exec = Jvm.exec) (hb : c.code = cc) (hml : c.maxLocals = nL) (hown : s.vm.findClass own = some m.cls) (hts : ∀ w ∈ WA, w.before args s = true) (hG : ∀ w ∈ WA, goodWord w = true)
    (hM : Met l y (Cond.codeWith y bytes maxL ret hh :: WA) rm Pc Qc mc ms free) (hcode : Cond.codeWith y bytes maxL ret hh ∈ WA) (hrc : rm.cells = mc) (hrs : rm.slots = ms) (hini : Cond.initialized y.cls ∈ WA) (hlk : Cond.methodLink own idx y ∈ WA)
    (hds : y.cls ≠ "java/lang/invoke/MethodHandle" ∧ y.cls ≠ "java/lang/invoke/VarHandle" ∧ (parseMethodDescriptor y.desc).map (fun d => d.parameters.length) = some n) (hR : rm.frames + 1 ≤ R.frames ∧ 8 + (maxL + 11) + rm.locals ≤ R.locals)
    (hbl : FrameBlind Pc) (hpre : ∀ U : State, U.heap = H → s.WarmedH U.vm → Pc vs.toArray U) (hsize : ls.size = nL) (hW : (rest.map fun v => v.category).sum ≤ 8) (hf : cells + mc ≤ R.cells ∧ slots + ms ≤ R.slots)
    (hl : vs.length = n) (hst : Cond.static y ∈ WA) (hd : decode cc pc = .ok (.invokestatic idx, 3)) :
    va_Run p l e R s m args below meth c H locs cells slots mc ms (F0 m pc ls (vs.reverse ++ rest)) rest (Qc vs.toArray) free := by
  have hgd : GoodIn WA (Cond.codeWith y bytes maxL ret hh :: WA) := sm_good hG (fun _ h => h) hcode
  have hK : Back l R p e below s args y 3 8 (PreOf R mc ms Pc) (PostOf Qc mc ms free) := va_backW (hh := hh) (bytes := bytes) (maxL := maxL) (ret := ret) hM hbl hrc hrs hR.1 hR.2 (pay_in hts hgd) List.mem_cons_self (fun a' U hWU => word_at hWU (good_of_word (hG _ hini)) (hts _ hini))
  obtain ⟨mk, methM, cM, hnamed, hmethM, -, -, -, -, -, -, hsigM⟩ := Cond.codeWith_spec (hts _ hcode)
  obtain ⟨kP, hkP, -⟩ := className_of_methodNamed hnamed
  have hinitP : kP.init = .initialized := Cond.initialized_spec (findClass_of_methodNamed hnamed) hkP (hts _ hini)
  have hstatic : methM.isStatic = true := Cond.static_spec hnamed hmethM (hts _ hst)
  have hnp : methM.sig.parameters.length = n := by
    have h2 := hds.2.2
    rw [hsigM] at h2
    exact Option.some.inj h2
  have hd' : decode c.code pc = .ok (.invokestatic idx, 3) := by rw [hb]; exact hd
  intro T hT X
  obtain ⟨vm₁, X₁, hstep₁⟩ := X.invokestatic hx hown (hts _ hlk) hnamed hmethM hstatic hkP hinitP ⟨hds.1, hds.2.1⟩ (g := F0 m pc ls (vs.reverse ++ rest)) rfl (argsL := vs) (rest := rest) (hl.trans hnp.symm) rfl hd'
  obtain ⟨v, ⟨U', l2, c2, s2⟩, X', hpost, hsteps⟩ := hK m meth c ⟨T.setVm vm₁, locs, cells, slots⟩ (F0 m pc ls rest) (.invokestatic idx) mk vs.toArray X₁ rfl (hsize.trans hml.symm) hd' (by show 2 * 0 + _ ≤ 8; have h9 : ((F0 m pc ls rest).stack.map fun v => v.category).sum = (rest.map fun v => v.category).sum := rfl; omega) (X₁.named hnamed) ⟨hf.1, hf.2, hpre _ hT X₁.warmed⟩
  obtain ⟨g', mk', t, L, e1, e2, hq, h1, hL, h2, h3⟩ := hpost
  dsimp only [Pt.U, Pt.locs, Pt.cells, Pt.slots] at X' e1 e2 h1 h2 h3 hsteps
  subst h1; subst h2; subst h3
  exact ⟨v, (T.setVm vm₁).calling g' mk' vs.toArray, t, U', L, hT, X', hL, e1, e2, hq, fun target h => hstep₁ _ (fun acts => by rw [doInvoke_state]; exact hsteps.trans h)⟩
section SMZ
variable {l : Launch} {D : va_G} {cl : List vw_C} {cA : Nat → ClassId} {b : Nat} {WA NW : List Cond} {T : sm_T} {ok : Nat → Nat → Bool} {tyN : List FieldType} {AO : List String} {bc : Nat → ByteArray} {nm : Nat → MethodName} {X : Nat × (Nat → Int32)} {fx : Nat → Prop} {KT : State → Prop} {XC : Nat → String} {eh : Nat → List (Nat × Nat × Nat × Nat)} {n : Nat}
theorem sm_metW (hP : sm_Pn l D cl cA b WA NW T ok tyN AO bc nm X fx KT XC eh n) {d lw z : Nat} {vs : List Value} {h h' : sm_H} {v : Option Value} (hrun : sm_run T X ok n d lw z 0 (sm_ent (sm_nL T z).1 vs) [] h = some (.inl v, h')) (hvs : vs.all sm_c1 = true) (hlen : vs.length ≤ (sm_nL T z).1) (hpl : plainName (nm z).cls = true) (ad : Nat → Nat) (sz : Nat) :
    Met l (nm z) (Cond.codeWith (nm z) (bc z) (sm_nL T z).1 (sm_rt T z) (eh z) :: WA) { frames := d, cells := h.2.2.2.1 - h'.2.2.2.1, slots := h.2.2.2.2 - h'.2.2.2.2, locals := lw } (sm_Pc D cl cA b tyN NW AO KT fx ad sz vs h) (sm_Qc D cl cA b (va_A (sm_w cA ad h) sz) ad h.1.length v h') (h.2.2.2.1 - h'.2.2.2.1) (h.2.2.2.2 - h'.2.2.2.2) (va_A (sm_w cA ad h) sz) := by
  refine va_MetW (cc := bc z) (maxL := (sm_nL T z).1) (ret := sm_rt T z) (hh := eh z) hpl rfl ?_
  intro p e s m args below meth c s₁ B hml hv
  obtain ⟨rfl, hsz, hPw, hDw, hK, hfx⟩ := hv
  have hts := atoms_spec (ws := Cond.codeWith (nm z) (bc z) (sm_nL T z).1 (sm_rt T z) (eh z) :: WA) B.pre
  have hcode := hts _ List.mem_cons_self
  have hown : s.vm.findClass (nm z).cls = some m.cls := findClass_of_methodNamed B.named
  have hnm : meth.name = (nm z).name := (name_of_methodNamed B.named B.method).1
  obtain ⟨m9, meth9, c9, hn9, hm9, hc9, -, -, ht9, -⟩ := Cond.codeWith_spec hcode
  cases B.named.symm.trans hn9
  cases B.method.symm.trans hm9
  cases (Stand.of_body B).code.symm.trans hc9
  have het : c.exceptionTable.toList = (eh z).map (fun q => ⟨q.1, q.2.1, q.2.2.1, q.2.2.2⟩) := by
    rw [← ht9, List.map_map]
    exact (List.map_id' c.exceptionTable.toList).symm
  subst hsz
  rw [lg_entry_eq]
  have W0 := hP d lw z 0 (sm_ent (sm_nL T z).1 vs) [] h (.inl v) h' hrun p e { frames := d, cells := h.2.2.2.1 - h'.2.2.2.1, slots := h.2.2.2.2 - h'.2.2.2.2, locals := lw } s m (vs.map (sm_v b ad)).toArray below meth c (va_A (sm_w cA ad h) s.heap.size) ad h.1.length h.2.2.2.1 h.2.2.2.2 B.exec B.bytes hml B.returns B.notSynchronized hown hnm het (fun w hw => hts w (List.mem_cons_of_mem _ hw)) hK hfx (fun q hq => Or.inr hq) (Nat.le_refl _) ⟨Nat.le_refl _, Nat.le_refl _⟩ ⟨Nat.le_refl _, Nat.le_refl _⟩ (Nat.le_refl _) (Nat.le_refl _)
  have W1 := W0 ad s.heap [] _ (fun _ _ => rfl) hPw hDw.self va_S.rf (sm_entry hvs hlen)
  rw [Nat.sub_self, Nat.sub_self] at W1
  exact W1
theorem sm_metT (hP : sm_Pn l D cl cA b WA NW T ok tyN AO bc nm X fx KT XC eh n) {d lw z x : Nat} {vs : List Value} {h h' : sm_H} (hrun : sm_run T X ok n d lw z 0 (sm_ent (sm_nL T z).1 vs) [] h = some (.inr x, h')) (hvs : vs.all sm_c1 = true) (hlen : vs.length ≤ (sm_nL T z).1) (hpl : plainName (nm z).cls = true) (hez : eh z = []) (ad : Nat → Nat) (sz : Nat) :
    sm_MetT l (nm z) (Cond.code (nm z) (bc z) (sm_nL T z).1 (sm_rt T z) :: WA) { frames := d, cells := h.2.2.2.1 - h'.2.2.2.1, slots := h.2.2.2.2 - h'.2.2.2.2, locals := lw } (sm_Pc D cl cA b tyN NW AO KT fx ad sz vs h) (fun st a t => sm_Qt D cl cA (va_A (sm_w cA ad h) sz) ad h.1.length XC x h' a st t) (h.2.2.2.1 - h'.2.2.2.1) (h.2.2.2.2 - h'.2.2.2.2) (va_A (sm_w cA ad h) sz) := by
  refine sm_MetT_ofW (cc := bc z) (maxL := (sm_nL T z).1) (ret := sm_rt T z) hpl rfl ?_
  intro p e s m args below meth c s₁ B hml hv
  obtain ⟨rfl, hsz, hPw, hDw, hK, hfx⟩ := hv
  have hts := atoms_spec (ws := Cond.code (nm z) (bc z) (sm_nL T z).1 (sm_rt T z) :: WA) B.pre
  have hcode := hts _ List.mem_cons_self
  have hown : s.vm.findClass (nm z).cls = some m.cls := findClass_of_methodNamed B.named
  have hnm : meth.name = (nm z).name := (name_of_methodNamed B.named B.method).1
  have hemp := B.noHandlers hcode
  have het : c.exceptionTable.toList = (eh z).map (fun q => ⟨q.1, q.2.1, q.2.2.1, q.2.2.2⟩) := by
    rw [hez]
    have h0 : c.exceptionTable.size = 0 := by simpa [Array.isEmpty] using hemp
    exact List.eq_nil_of_length_eq_zero (by simpa using h0)
  subst hsz
  rw [lg_entry_eq]
  have W0 := hP d lw z 0 (sm_ent (sm_nL T z).1 vs) [] h (.inr x) h' hrun p e { frames := d, cells := h.2.2.2.1 - h'.2.2.2.1, slots := h.2.2.2.2 - h'.2.2.2.2, locals := lw } s m (vs.map (sm_v b ad)).toArray below meth c (va_A (sm_w cA ad h) s.heap.size) ad h.1.length h.2.2.2.1 h.2.2.2.2 B.exec B.bytes hml B.returns B.notSynchronized hown hnm het (fun w hw => hts w (List.mem_cons_of_mem _ hw)) hK hfx (fun q hq => Or.inr hq) (Nat.le_refl _) ⟨Nat.le_refl _, Nat.le_refl _⟩ ⟨Nat.le_refl _, Nat.le_refl _⟩ (Nat.le_refl _) (Nat.le_refl _)
  have W1 := W0 ad s.heap [] _ (fun _ _ => rfl) hPw hDw.self va_S.rf (sm_entry hvs hlen)
  rw [Nat.sub_self, Nat.sub_self] at W1
  exact W1
end SMZ
