/-! ===== how a method begins, and what it ends with ===== -/
theorem sm_c1_cat {b : Nat} {ad : Nat → Nat} {v : Value} (h : sm_c1 v = true) : (sm_v b ad v).category = 1 := by
  cases v <;> first | rfl | cases h
theorem sm_args_mem : ∀ (vs : List Value) (k i : Nat) (v : Value), (∀ w ∈ vs, w.category = 1) → vs[i]? = some v → (k + i, v) ∈ lv_args k vs
  | [], _, _, _, _, h => by cases h
  | w :: vs, k, 0, v, _, h => by
    cases h
    exact List.mem_cons_self
  | w :: vs, k, i + 1, v, hc, h => by
    have h1 : w.category = 1 := hc w List.mem_cons_self
    have h2 := sm_args_mem vs (k + 1) i v (fun z hz => hc z (List.mem_cons_of_mem _ hz)) h
    have h3 : lv_args k (w :: vs) = (k, w) :: lv_args (k + 1) vs := by
      show (k, w) :: lv_args (if w.category = 2 then k + 2 else k + 1) vs = _
      rw [if_neg (by omega)]
    rw [h3, show k + (i + 1) = k + 1 + i by omega]
    exact List.mem_cons_of_mem _ h2
theorem sm_sl_len : ∀ (vs : List Value), (∀ w ∈ vs, w.category = 1) → (lg_sl vs).length = vs.length
  | [], _ => rfl
  | w :: vs, hc => by
    have h1 : w.category = 1 := hc w List.mem_cons_self
    have h2 := sm_sl_len vs (fun z hz => hc z (List.mem_cons_of_mem _ hz))
    have h3 : lg_sl (w :: vs) = .val w :: lg_sl vs := by
      simp [lg_sl, h1]
    rw [h3, List.length_cons, List.length_cons, h2]
theorem sm_entry {b n : Nat} {ad : Nat → Nat} {vs : List Value} (hc : vs.all sm_c1 = true) (hn : vs.length ≤ n) :
    sm_l b ad ((lg_sl (vs.map (sm_v b ad)) ++ List.replicate (n - (lg_sl (vs.map (sm_v b ad))).length) Slot.unset).toArray) n (sm_ent n vs) := by
  have hc2 : ∀ w ∈ vs.map (sm_v b ad), w.category = 1 := by
    intro w hw
    obtain ⟨v, hv, rfl⟩ := List.mem_map.mp hw
    exact sm_c1_cat (List.all_eq_true.mp hc v hv)
  have hl := sm_sl_len _ hc2
  have he := lv_entry (vs.map (sm_v b ad)) (n := n) (by rw [hl, List.length_map]; exact hn)
  refine ⟨by unfold sm_ent; simp; omega, he.1, he.2.1, fun i v hv => ?_⟩
  have hi : vs[i]? = some v := by
    unfold sm_ent at hv
    by_cases h9 : i < vs.length
    · rw [List.getElem?_append_left (by simpa using h9), List.getElem?_map] at hv
      cases h8 : vs[i]? with
      | none => rw [h8] at hv; cases hv
      | some w => rw [h8] at hv; cases hv; rfl
    · rw [List.getElem?_append_right (by simpa using h9)] at hv
      have := List.eq_of_mem_replicate (List.mem_of_getElem? hv)
      cases this
  have hm : (vs.map (sm_v b ad))[i]? = some (sm_v b ad v) := by rw [List.getElem?_map, hi]; rfl
  have h7 := he.2.2 _ (sm_args_mem _ 0 i _ hc2 hm)
  rw [Nat.zero_add] at h7
  exact ⟨h7, hc2 _ (List.mem_of_getElem? hm)⟩
/-- what every state of ours has: the tables' words on classes, nest mates and arrays, and KT -/
def sm_Kx (D : va_G) (cl : List vw_C) (cA : Nat → ClassId) (tyN : List FieldType) (NW : List Cond) (AO : List String) (KT : State → Prop) (U : State) : Prop :=
  va_K D cl (sm_tys cA tyN) U ∧ (∀ w ∈ NW, va_Nw w U) ∧ (∀ C ∈ AO, va_AO C U) ∧ KT U
/-- the nest words are of two kinds; KT goes on while the cells of fx stay; it says where the script lies -/
def sm_Mv (NW : List Cond) (b : Nat) (X : Nat × (Nat → Int32)) (fx : Nat → Prop) (KT : State → Prop) : Prop :=
  (∀ w ∈ NW, (∃ a i x n d h, w = .fieldLinkNest a i x n d h) ∨ ∃ a i x h, w = .methodLinkNest a i x h) ∧ (∀ U V : State, U.WarmedH V.vm → (∀ q, fx q → V.heap[q]? = U.heap[q]?) → KT U → KT V) ∧ (∀ U, KT U → va_X b X.1 X.2 U U.heap) ∧ fx b
theorem sm_Kx_mv {D : va_G} {cl : List vw_C} {cA : Nat → ClassId} {b : Nat} {NW : List Cond} {tyN : List FieldType} {AO : List String} {X : Nat × (Nat → Int32)} {fx : Nat → Prop} {KT : State → Prop} {U V : State} (hM : sm_Mv NW b X fx KT) (hW : U.WarmedH V.vm) (hq : ∀ q, fx q → V.heap[q]? = U.heap[q]?) (h : sm_Kx D cl cA tyN NW AO KT U) : sm_Kx D cl cA tyN NW AO KT V := by
  obtain ⟨h1, h2, h3, h4⟩ := h
  refine ⟨va_K.moved hW.alike h1, fun w hw => ?_, fun C hC => (h3 C hC).moved hW.alike, hM.2.1 U V hW hq h4⟩
  have h5 := h2 w hw
  rcases hM.1 w hw with ⟨a, i, x, n, d, h, rfl⟩ | ⟨a, i, x, h, rfl⟩
  · exact h5.warmF hW
  · exact h5.warmM hW
/-- a method's end with an answer -/
def sm_Qc (D : va_G) (cl : List vw_C) (cA : Nat → ClassId) (b : Nat) (A : Nat → Prop) (ad0 : Nat → Nat) (n0 : Nat) (v : Option Value) (h' : sm_H) : Array Value → State → Outcome → State → Prop := fun _ st oc t =>
  (∃ ad' : Nat → Nat, (∀ k, ¬ (n0 ≤ k ∧ k < h'.1.length) → ad' k = ad0 k) ∧ oc = .returned (v.map (sm_v b ad')) ∧ va_P D cl (sm_w cA ad' h') t.heap ∧ va_D A (sm_w cA ad' h')) ∧ va_F A st t
/-- .. and without one: what is thrown is an object of the class XC x -/
def sm_Qt (D : va_G) (cl : List vw_C) (cA : Nat → ClassId) (A : Nat → Prop) (ad0 : Nat → Nat) (n0 : Nat) (XC : Nat → String) (x : Nat) (h' : sm_H) (a : Addr) (st t : State) : Prop :=
  (∃ ad' : Nat → Nat, (∀ k, ¬ (n0 ≤ k ∧ k < h'.1.length) → ad' k = ad0 k) ∧ va_P D cl (sm_w cA ad' h') t.heap ∧ va_D A (sm_w cA ad' h')) ∧ va_F A st t ∧
  ∃ cell : Cell, t.heap[a]? = some cell ∧ cell.vm.isStatics = false ∧ t.vm.findClass (XC x) = some cell.cls
def sm_MT (below : List Frame) (Qa : Addr → State → Prop) (s : State) (mc ms : Nat) (free : Addr → Prop) : State → Prop := fun t =>
  ∃ a, t.status = .running ∧ Ended t below (.threw a) ∧ Qa a t ∧ s.WarmedH t.vm ∧ ∃ L, s.sameButNew ({ t with vm := s.vm } : State) L mc ms ∧ ∀ q ∈ L, free q.base
def sm_Q (D : va_G) (cl : List vw_C) (cA : Nat → ClassId) (b : Nat) (XC : Nat → String) (below : List Frame) (args : Array Value) (s : State) (A : Nat → Prop) (ad0 : Nat → Nat) (n0 C1 S1 : Nat) (o : sm_O) (h' : sm_H) : State → Prop := match o with
  | .inl v => MQ below (sm_Qc D cl cA b A ad0 n0 v h') args s (C1 - h'.2.2.2.1) (S1 - h'.2.2.2.2) A
  | .inr x => sm_MT below (fun a t => sm_Qt D cl cA A ad0 n0 XC x h' a s t) s (C1 - h'.2.2.2.1) (S1 - h'.2.2.2.2) A
def sm_rt (T : sm_T) (y : Nat) : Option FieldType := if (sm_nL T y).2.1 = 0 then none else if (sm_nL T y).2.1 = 1 then some .int else some .boolean
section SMR
variable {p : Program} {l : Launch} {e : Env} {R : Room} {s : State} {m : MethodId} {args : Array Value} {below : List Frame} {meth : Method} {c : Code} {D : va_G} {cl : List vw_C} {A : Nat → Prop} {nL : Nat} {cA : Nat → ClassId} {b : Nat} {ad0 : Nat → Nat} {n0 C1 S1 : Nat} {pc : Nat} {L : sm_L} {S : List Value} {h : sm_H} {XC : Nat → String} {cc : ByteArray}
/-- the answers -/
theorem sm_s_ret (hx : p.tables.exec = Jvm.exec) (hb : c.code = cc) {kd : Nat} (hr : meth.sig.returnType = (if kd = 0 then none else if kd = 1 then some .int else some .boolean)) (hlocks : meth.locks = false) {i : Instr} {len : Nat} (hd : decode cc pc = .ok (i, len)) (hlen : len = 1) {v : Option Value} (hi : sm_ret kd i S = some v) :
    sm_W p l e R s m args below meth c (sm_Q D cl cA b XC below args s A ad0 n0 C1 S1 (.inl v) h) D cl A s.heap nL cA b ad0 n0 C1 S1 pc L S h := by
  subst hlen
  intro ad H locs ls e1 hP hD hS hl
  unfold sm_ret at hi
  split at hi
  · cases hi
    exact W.vret hx hb hr (fun t ht hW => ⟨⟨ad, e1, rfl, by rw [ht]; exact hP, hD⟩, hS.F ht⟩) hS.2.2 hd hlocks
  · next x =>
    cases hi
    exact W.iret hx hb hr (fun t ht hW => ⟨⟨ad, e1, rfl, by rw [ht]; exact hP, hD⟩, hS.F ht⟩) hS.2.2 hd hlocks
  · next x =>
    split at hi
    · next hc =>
      cases hi
      exact W.zret (ty := .boolean) hx hb hr (by rcases hc with rfl | rfl <;> decide) (fun t ht hW => ⟨⟨ad, e1, rfl, by rw [ht]; exact hP, hD⟩, hS.F ht⟩) hS.2.2 hd hlocks
    · cases hi
  · cases hi
end SMR
