/-! ===== every run of the small machine is a run of the machine ===== -/
/-- a method's start -/
def sm_Pc (D : va_G) (cl : List vw_C) (cA : Nat → ClassId) (b : Nat) (tyN : List FieldType) (NW : List Cond) (AO : List String) (KT : State → Prop) (fx : Nat → Prop) (ad : Nat → Nat) (sz : Nat) (vs : List Value) (h : sm_H) : Array Value → State → Prop :=
  va_Pc (vs.map (sm_v b ad)) (fun U => U.heap.size = sz ∧ va_P D cl (sm_w cA ad h) U.heap ∧ va_D (fun _ => True) (sm_w cA ad h) ∧ sm_Kx D cl cA tyN NW AO KT U ∧ ∀ q, fx q → q < sz ∧ ¬ va_A (sm_w cA ad h) sz q)
/-- what the main theorem says of fuel n -/
def sm_Pn (l : Launch) (D : va_G) (cl : List vw_C) (cA : Nat → ClassId) (b : Nat) (WA NW : List Cond) (T : sm_T) (ok : Nat → Nat → Bool) (tyN : List FieldType) (AO : List String) (bc : Nat → ByteArray) (nm : Nat → MethodName) (X : Nat × (Nat → Int32)) (fx : Nat → Prop) (KT : State → Prop) (XC : Nat → String) (eh : Nat → List (Nat × Nat × Nat × Nat)) (n : Nat) : Prop :=
  ∀ (d lw y pc : Nat) (L : sm_L) (S : List Value) (h : sm_H) (o : sm_O) (h' : sm_H), sm_run T X ok n d lw y pc L S h = some (o, h') →
  ∀ (p : Program) (e : Env) (R : Room) (s : State) (m : MethodId) (args : Array Value) (below : List Frame) (meth : Method) (c : Code) (A : Nat → Prop) (ad0 : Nat → Nat) (n0 C1 S1 : Nat), p.tables.exec = Jvm.exec → c.code = bc y → c.maxLocals = (sm_nL T y).1 → meth.sig.returnType = sm_rt T y → meth.locks = false → s.vm.findClass (nm y).cls = some m.cls → meth.name = (nm y).name → c.exceptionTable.toList = (eh y).map (fun q => ⟨q.1, q.2.1, q.2.2.1, q.2.2.2⟩) →
    (∀ w ∈ WA, w.before args s = true) → sm_Kx D cl cA tyN NW AO KT s → (∀ q, fx q → q < s.heap.size ∧ ¬ A q) → (∀ q, s.heap.size ≤ q → A q) → n0 ≤ h.1.length → h.2.2.2.1 ≤ C1 ∧ h.2.2.2.2 ≤ S1 → C1 - h'.2.2.2.1 ≤ R.cells ∧ S1 - h'.2.2.2.2 ≤ R.slots → d ≤ R.frames → lw ≤ R.locals →
    sm_W p l e R s m args below meth c (sm_Q D cl cA b XC below args s A ad0 n0 C1 S1 o h') D cl A s.heap (sm_nL T y).1 cA b ad0 n0 C1 S1 pc L S h
section SMQ
variable {l : Launch} {D : va_G} {cl : List vw_C} {cA : Nat → ClassId} {b : Nat} {WA NW : List Cond} {T : sm_T} {ok : Nat → Nat → Bool} {tyN : List FieldType} {AO : List String} {bc : Nat → ByteArray} {nm : Nat → MethodName} {X : Nat × (Nat → Int32)} {fx : Nat → Prop} {KT : State → Prop} {XC : Nat → String} {eh : Nat → List (Nat × Nat × Nat × Nat)} {n : Nat}
/-- a callee without handlers keeps its contract -/
theorem sm_met (hP : sm_Pn l D cl cA b WA NW T ok tyN AO bc nm X fx KT XC eh n) {d lw z : Nat} {vs : List Value} {h h' : sm_H} {v : Option Value} (hrun : sm_run T X ok n d lw z 0 (sm_ent (sm_nL T z).1 vs) [] h = some (.inl v, h')) (hvs : vs.all sm_c1 = true) (hlen : vs.length ≤ (sm_nL T z).1) (hpl : plainName (nm z).cls = true) (hez : eh z = []) (ad : Nat → Nat) (sz : Nat) :
    Met l (nm z) (Cond.code (nm z) (bc z) (sm_nL T z).1 (sm_rt T z) :: WA) { frames := d, cells := h.2.2.2.1 - h'.2.2.2.1, slots := h.2.2.2.2 - h'.2.2.2.2, locals := lw } (sm_Pc D cl cA b tyN NW AO KT fx ad sz vs h) (sm_Qc D cl cA b (va_A (sm_w cA ad h) sz) ad h.1.length v h') (h.2.2.2.1 - h'.2.2.2.1) (h.2.2.2.2 - h'.2.2.2.2) (va_A (sm_w cA ad h) sz) := by
  refine Met.ofW (cc := bc z) (maxL := (sm_nL T z).1) (ret := sm_rt T z) hpl rfl ?_
  intro p e s m args below meth c s₁ B hml hv
  obtain ⟨rfl, hsz, hPw, hDw, hK, hfx⟩ := hv
  have hts := atoms_spec (ws := Cond.code (nm z) (bc z) (sm_nL T z).1 (sm_rt T z) :: WA) B.pre
  have hcode := hts _ List.mem_cons_self
  have hown : s.vm.findClass (nm z).cls = some m.cls := findClass_of_methodNamed B.named
  have hnm : meth.name = (nm z).name := (name_of_methodNamed B.named B.method).1
  have hemp := B.noHandlers hcode
  have het : c.exceptionTable.toList = (eh z).map (fun q => ⟨q.1, q.2.1, q.2.2.1, q.2.2.2⟩) := by
    rw [hez]
    have h0 : c.exceptionTable.size = 0 := by simpa [Array.isEmpty] using hemp
    exact List.eq_nil_of_length_eq_zero (by simpa using h0)
  subst hsz
  rw [lg_entry_eq]
  have W0 := hP d lw z 0 (sm_ent (sm_nL T z).1 vs) [] h (.inl v) h' hrun p e { frames := d, cells := h.2.2.2.1 - h'.2.2.2.1, slots := h.2.2.2.2 - h'.2.2.2.2, locals := lw } s m (vs.map (sm_v b ad)).toArray below meth c (va_A (sm_w cA ad h) s.heap.size) ad h.1.length h.2.2.2.1 h.2.2.2.2 B.exec B.bytes hml B.returns B.notSynchronized hown hnm het (fun w hw => hts w (List.mem_cons_of_mem _ hw)) hK hfx (fun q hq => Or.inr hq) (Nat.le_refl _) ⟨Nat.le_refl _, Nat.le_refl _⟩ ⟨Nat.le_refl _, Nat.le_refl _⟩ (Nat.le_refl _) (Nat.le_refl _)
  have W1 := W0 ad s.heap [] _ (fun _ _ => rfl) hPw hDw.self va_S.rf (sm_entry hvs hlen)
  rw [Nat.sub_self, Nat.sub_self] at W1
  exact W1
theorem sm_blind (hM : sm_Mv NW b X fx KT) {ad : Nat → Nat} {sz : Nat} {vs : List Value} {h : sm_H} : FrameBlind (sm_Pc D cl cA b tyN NW AO KT fx ad sz vs h) := by
  intro a U g mk q
  obtain ⟨q0, q1, q2, q3, q4, q5⟩ := q
  exact ⟨q0, q1, q2, q3, sm_Kx_mv (V := U.calling g mk a) hM (State.WarmedH.refl U) (fun _ _ => rfl) q4, q5⟩
end SMQ
