/-! ===== new cells ===== -/
theorem sm_v_ext {b n : Nat} {ad ad' : Nat → Nat} {v : Value} (hw : sm_wfv n v = true) (ha : ∀ k, k < n → ad' k = ad k) : sm_v b ad' v = sm_v b ad v := by
  cases v with
  | ref k => exact congrArg Value.ref (ha k (by simpa [sm_wfv] using hw))
  | _ => rfl
theorem sm_S_ext {b n : Nat} {ad ad' : Nat → Nat} {S : List Value} (hw : S.all (sm_wfv n) = true) (ha : ∀ k, k < n → ad' k = ad k) : S.map (sm_v b ad') = S.map (sm_v b ad) :=
  List.map_congr_left fun v hv => sm_v_ext (List.all_eq_true.mp hw v hv) ha
theorem sm_l_ext {b n nL : Nat} {ad ad' : Nat → Nat} {ls : Array Slot} {L : sm_L} (h : sm_l b ad ls nL L) (hw : L.all (fun o => match o with
  | some v => sm_wfv n v
  | none => true) = true) (ha : ∀ k, k < n → ad' k = ad k) : sm_l b ad' ls nL L := by
  refine ⟨h.1, h.2.1, h.2.2.1, fun i v hv => ?_⟩
  have h1 : sm_wfv n v = true := List.all_eq_true.mp hw (some v) (List.mem_of_getElem? hv)
  rw [sm_v_ext h1 ha]
  exact h.2.2.2 i v hv
theorem sm_r_ext {n : Nat} {ad ad' : Nat → Nat} {r : Option Nat} (hw : sm_wfr n r = true) (ha : ∀ k, k < n → ad' k = ad k) : r.map ad' = r.map ad := by
  cases r with
  | none => rfl
  | some k => exact congrArg some (ha k (by simpa [sm_wfr] using hw))
theorem sm_e_ext {n k : Nat} {cA : Nat → ClassId} {ad ad' : Nat → Nat} {M M' : sm_M} {J J' : sm_J} {z : sm_S} (hw : sm_wfs n z = true) (ha : ∀ k, k < n → ad' k = ad k) (hM : M' k = M k) (hJ : J' k = J k) : sm_e cA ad' M' J' k z = sm_e cA ad M J k z := by
  match z with
  | .inl (ci, fs) =>
    simp only [sm_e, hM]
    congr 2
    apply List.ext_getElem?
    intro i
    rw [List.getElem?_mapIdx, List.getElem?_mapIdx]
    cases hf : fs[i]? with
    | none => rfl
    | some f =>
      have h1 := List.all_eq_true.mp hw f (List.mem_of_getElem? hf)
      match f with
      | none => rfl
      | some none => rfl
      | some (some q) =>
        have h2 : q < n := by simpa [sm_wfr] using h1
        show some (Value.ref (ad' q)) = some (Value.ref (ad q))
        rw [ha q h2]
  | .inr (.inl (t, n)) => simp only [sm_e, hM]
  | .inr (.inr (.inl n)) => simp only [sm_e, hJ]
  | .inr (.inr (.inr (t, rs))) =>
    have e9 : (fun i : Nat => (rs[i]?.join).map ad') = (fun i : Nat => (rs[i]?.join).map ad) := by
      funext i
      cases hf : rs[i]? with
      | none => rfl
      | some f => exact sm_r_ext (List.all_eq_true.mp hw f (List.mem_of_getElem? hf)) ha
    simp only [sm_e, e9]
theorem sm_w_push {cA : Nat → ClassId} {ad ad' : Nat → Nat} {sh : List sm_S} {M M' : sm_M} {J J' : sm_J} {r r' : Nat × Nat} {z : sm_S} (hw : sh.all (sm_wfs sh.length) = true) (ha : ∀ k, k < sh.length → ad' k = ad k) (hM : ∀ k, k < sh.length → M' k = M k) (hJ : ∀ k, k < sh.length → J' k = J k) :
    sm_w cA ad' (sh ++ [z], M', J', r') = sm_w cA ad (sh, M, J, r) ++ [(ad' sh.length, sm_e cA ad' M' J' sh.length z)] := by
  apply List.ext_getElem?
  intro j
  have hl : (sm_w cA ad (sh, M, J, r)).length = sh.length := by unfold sm_w; rw [List.length_mapIdx]
  by_cases hj : j < sh.length
  · rw [List.getElem?_append_left (by rw [hl]; exact hj)]
    unfold sm_w
    rw [List.getElem?_mapIdx, List.getElem?_mapIdx]
    show Option.map _ (sh ++ [z])[j]? = Option.map _ sh[j]?
    rw [List.getElem?_append_left hj]
    cases hz : sh[j]? with
    | none => rfl
    | some z' =>
      show some (ad' j, sm_e cA ad' M' J' j z') = some (ad j, sm_e cA ad M J j z')
      rw [ha j hj, sm_e_ext (List.all_eq_true.mp hw z' (List.mem_of_getElem? hz)) ha (hM j hj) (hJ j hj)]
  · by_cases hj2 : j = sh.length
    · subst hj2
      rw [List.getElem?_append_right (by rw [hl]; exact Nat.le_refl _), hl, Nat.sub_self]
      unfold sm_w
      rw [List.getElem?_mapIdx]
      show Option.map _ (sh ++ [z])[sh.length]? = _
      rw [List.getElem?_append_right (Nat.le_refl _), Nat.sub_self]
      rfl
    · have h1 : (sm_w cA ad (sh, M, J, r) ++ [(ad' sh.length, sm_e cA ad' M' J' sh.length z)])[j]? = none := List.getElem?_eq_none (by rw [List.length_append, hl]; simp; omega)
      have h2 : (sm_w cA ad' (sh ++ [z], M', J', r'))[j]? = none := List.getElem?_eq_none (by
        unfold sm_w
        rw [List.length_mapIdx]
        simp
        omega)
      rw [h1, h2]
theorem sm_RA_eq {U : State} {c1 c2 : ClassId} {ty : FieldType} (h1 : va_RA U c1 ty) (h2 : va_RA U c2 ty) : c1 = c2 := by
  cases ty with
  | object C =>
    obtain ⟨_, _, -, -, -, a⟩ := h1
    obtain ⟨_, _, -, -, -, b⟩ := h2
    exact Option.some.inj (a.symm.trans b)
  | _ => exact Option.some.inj (h1.symm.trans h2)
section SMN
variable {p : Program} {l : Launch} {e : Env} {R : Room} {s : State} {m : MethodId} {args : Array Value} {below : List Frame} {meth : Method} {c : Code} {Q : State → Prop} {cc : ByteArray} {D : va_G} {cl : List vw_C} {tys : List (ClassId × FieldType)} {A : Nat → Prop} {H0 : Heap} {nL : Nat} {cA : Nat → ClassId} {b : Nat} {ad0 : Nat → Nat} {n0 C1 S1 : Nat} {pc : Nat} {L : sm_L} {S : List Value} {h : sm_H} {r : sm_P} {WA NW : List Cond} {own : String} {idx : Nat}
theorem sm_s_mk {rest : List Value} {z : sm_S} {n pc2 : Nat} (hn0 : n0 ≤ h.1.length) (hle : h.2.2.2.1 ≤ C1 ∧ h.2.2.2.2 ≤ S1) (hroom : C1 - r.2.2.2.2.2.2.1 ≤ R.cells ∧ S1 - r.2.2.2.2.2.2.2 ≤ R.slots) (hi : sm_mk pc2 L rest h z n = some r) (k : sm_W p l e R s m args below meth c Q D cl A H0 nL cA b ad0 n0 C1 S1 r.1 r.2.1 r.2.2.1 r.2.2.2) :
    (C1 - h.2.2.2.1 + 1 ≤ R.cells ∧ S1 - h.2.2.2.2 + n ≤ R.slots) ∧ ∀ (ad : Nat → Nat) (H1 : Heap) (locs : List Loc) (ls : Array Slot) (q : Nat) (E : va_E), (∀ k, ¬ (n0 ≤ k ∧ k < h.1.length) → ad k = ad0 k) → sm_l b ad ls nL L → va_P D cl (sm_w cA ad h ++ [(q, E)]) H1 → va_D A (sm_w cA ad h ++ [(q, E)]) → va_S A H0 H1 locs →
      E = sm_e cA (fun j => if j = h.1.length then q else ad j) (sm_uf h.2.1 h.1.length (fun _ => 0)) (fun a => if a = h.1.length then (fun _ => 0) else h.2.2.1 a) h.1.length z →
      W p l e R s m args below meth c H1 locs (C1 - h.2.2.2.1 + 1) (S1 - h.2.2.2.2 + n) Q (F0 m pc2 ls (.ref q :: rest.map (sm_v b ad))) := by
  unfold sm_mk at hi
  split at hi
  · next hc =>
    obtain ⟨h1, h2, h3, h4, h5⟩ := hc
    cases hi
    have g1 : C1 - (h.2.2.2.1 - 1) = C1 - h.2.2.2.1 + 1 := by omega
    have g2 : S1 - (h.2.2.2.2 - n) = S1 - h.2.2.2.2 + n := by omega
    dsimp only at hroom k
    rw [g1, g2] at hroom
    refine ⟨hroom, fun ad H1 locs ls q E e1 hl hP hD hS hE => ?_⟩
    have ha : ∀ j, j < h.1.length → (fun j => if j = h.1.length then q else ad j) j = ad j := fun j hj => if_neg (by omega)
    have hw : sm_wfL h.1.length L rest = true := h3
    unfold sm_wfL at hw
    rw [Bool.and_eq_true] at hw
    have ew := sm_w_push (cA := cA) (ad := ad) (ad' := fun j => if j = h.1.length then q else ad j) (sh := h.1) (M := h.2.1) (M' := sm_uf h.2.1 h.1.length (fun _ => 0)) (J := h.2.2.1) (J' := fun a => if a = h.1.length then (fun _ => 0) else h.2.2.1 a) (r := h.2.2.2) (r' := (h.2.2.2.1 - 1, h.2.2.2.2 - n)) (z := z) h4 ha (fun j hj => sm_uf_ne j (by omega)) (fun j hj => if_neg (by omega))
    rw [← hE] at ew
    have ew : sm_w cA (fun j => if j = h.1.length then q else ad j) (h.1 ++ [z], sm_uf h.2.1 h.1.length (fun _ => 0), (fun a => if a = h.1.length then (fun _ => 0) else h.2.2.1 a), h.2.2.2.1 - 1, h.2.2.2.2 - n) = sm_w cA ad h ++ [(q, E)] := by
      rw [ew]
      simp
    have kk := k (fun j => if j = h.1.length then q else ad j) H1 locs ls (fun j hj => by
      have hl9 : (h.1 ++ [z]).length = h.1.length + 1 := by simp
      rw [hl9] at hj
      show (if j = h.1.length then q else ad j) = ad0 j
      rw [if_neg (by omega)]
      exact e1 j (by omega)) (by rw [ew]; exact hP) (by rw [ew]; exact hD) hS (sm_l_ext hl hw.1 ha)
    dsimp only at kk
    rw [g1, g2] at kk
    have es : List.map (sm_v b (fun j => if j = h.1.length then q else ad j)) (Value.ref h.1.length :: rest) = .ref q :: rest.map (sm_v b ad) := by
      rw [List.map_cons, sm_S_ext hw.2 ha]
      simp [sm_v]
    rw [es] at kk
    exact kk
  · cases hi
theorem sm_s_newarray (hx : p.tables.exec = Jvm.exec) (hb : c.code = cc) (hK : va_K D cl tys s) (hA : ∀ q, H0.size ≤ q → A q) (hn0 : n0 ≤ h.1.length) (hle : h.2.2.2.1 ≤ C1 ∧ h.2.2.2.2 ≤ S1) (hroom : C1 - r.2.2.2.2.2.2.1 ≤ R.cells ∧ S1 - r.2.2.2.2.2.2.2 ≤ R.slots) (t0 : tys[0]? = some (cA 0, .int)) (t1 : tys[1]? = some (cA 1, .boolean)) (t2 : tys[2]? = some (cA 2, .long)) (ha0 : (Cond.arrayClass .int).before args s = true) (ha1 : (Cond.arrayClass .boolean).before args s = true) (ha2 : (Cond.arrayClass .long).before args s = true) {t : ArrayType} (hd : decode cc pc = .ok (.newarray t, 2)) (hi : sm_newa (pc + 2) L S h t = some r) (k : sm_W p l e R s m args below meth c Q D cl A H0 nL cA b ad0 n0 C1 S1 r.1 r.2.1 r.2.2.1 r.2.2.2) : sm_W p l e R s m args below meth c Q D cl A H0 nL cA b ad0 n0 C1 S1 pc L S h := by
  unfold sm_newa at hi
  split at hi
  · next n rest =>
    split at hi
    · next hc =>
      have hn : ¬ n < 0 := by
        rw [Int32.lt_iff_toInt_lt]
        have : (0 : Int32).toInt = 0 := by decide
        omega
      have hN : n.toNatClampNeg = n.toInt.toNat := rfl
      split at hi
      · obtain ⟨hr2, go⟩ := sm_s_mk hn0 hle hroom hi k
        intro ad H locs ls e1 hP hD hS hl
        refine va_newa hx hb (atype := .int) ha0 (ty := .int) rfl hK hP hD hS hA (a0 := (n.toNatClampNeg, .inl (fun _ => 0))) (fun _ => rfl) hn rfl (by show n.toNatClampNeg * _ ≤ _; rw [hN]; simp only [componentBytes]; omega) hr2.1 hr2.2 hd (fun q cB H1 hK1 hP1 hD1 hS1 => ?_)
        have hcc : cB = cA 0 := sm_RA_eq (hK1.2 tys.length (cB, .int) (by simp)).2 (hK1.2 0 (cA 0, .int) (by rw [List.getElem?_append_left (List.getElem?_eq_some_iff.mp t0).1]; exact t0)).2
        subst hcc
        exact go ad H1 locs ls q _ e1 hl hP1 hD1 hS1 (by simp [sm_e, sm_uf])
      · obtain ⟨hr2, go⟩ := sm_s_mk hn0 hle hroom hi k
        intro ad H locs ls e1 hP hD hS hl
        refine va_newa hx hb (atype := .boolean) ha1 (ty := .boolean) rfl hK hP hD hS hA (a0 := (n.toNatClampNeg, .inl (fun _ => 0))) (fun _ => rfl) hn rfl (by show n.toNatClampNeg * _ ≤ _; rw [hN]; simp only [componentBytes]; omega) hr2.1 hr2.2 hd (fun q cB H1 hK1 hP1 hD1 hS1 => ?_)
        have hcc : cB = cA 1 := sm_RA_eq (hK1.2 tys.length (cB, .boolean) (by simp)).2 (hK1.2 1 (cA 1, .boolean) (by rw [List.getElem?_append_left (List.getElem?_eq_some_iff.mp t1).1]; exact t1)).2
        subst hcc
        exact go ad H1 locs ls q _ e1 hl hP1 hD1 hS1 (by simp [sm_e, sm_uf])
      · obtain ⟨hr2, go⟩ := sm_s_mk hn0 hle hroom hi k
        intro ad H locs ls e1 hP hD hS hl
        refine va_newa hx hb (atype := .long) ha2 (ty := .long) rfl hK hP hD hS hA (a0 := (n.toNatClampNeg, .inr (.inl (fun _ => 0)))) (fun _ => rfl) hn rfl (by show n.toNatClampNeg * _ ≤ _; rw [hN]; simp only [componentBytes]; omega) hr2.1 hr2.2 hd (fun q cB H1 hK1 hP1 hD1 hS1 => ?_)
        have hcc : cB = cA 2 := sm_RA_eq (hK1.2 tys.length (cB, .long) (by simp)).2 (hK1.2 2 (cA 2, .long) (by rw [List.getElem?_append_left (List.getElem?_eq_some_iff.mp t2).1]; exact t2)).2
        subst hcc
        exact go ad H1 locs ls q _ e1 hl hP1 hD1 hS1 (by simp [sm_e, sm_uf])
      · cases hi
    · cases hi
  · cases hi
theorem sm_s_anewarray (hx : p.tables.exec = Jvm.exec) (hb : c.code = cc) (hK : va_K D cl tys s) (hA : ∀ q, H0.size ≤ q → A q) (hn0 : n0 ≤ h.1.length) (hle : h.2.2.2.1 ≤ C1 ∧ h.2.2.2.2 ≤ S1) (hroom : C1 - r.2.2.2.2.2.2.1 ≤ R.cells ∧ S1 - r.2.2.2.2.2.2.2 ≤ R.slots) (hown : s.vm.findClass own = some m.cls) {t : Option Nat} (hq : ∀ u, t = some u → ∃ C, tys[u]? = some (cA u, .object C) ∧ (Cond.classLink own idx C).before args s = true ∧ va_AO C s) (hd : decode cc pc = .ok (.anewarray idx, 3)) (hi : sm_newq (pc + 3) L S h t = some r) (k : sm_W p l e R s m args below meth c Q D cl A H0 nL cA b ad0 n0 C1 S1 r.1 r.2.1 r.2.2.1 r.2.2.2) : sm_W p l e R s m args below meth c Q D cl A H0 nL cA b ad0 n0 C1 S1 pc L S h := by
  unfold sm_newq at hi
  split at hi
  · next u n rest =>
    obtain ⟨C, tu, hcl, hao⟩ := hq u rfl
    split at hi
    · next hc =>
      have hn : ¬ n < 0 := by
        rw [Int32.lt_iff_toInt_lt]
        have : (0 : Int32).toInt = 0 := by decide
        omega
      have hN : n.toNatClampNeg = n.toInt.toNat := rfl
      obtain ⟨hr2, go⟩ := sm_s_mk hn0 hle hroom hi k
      intro ad H locs ls e1 hP hD hS hl
      refine va_newq hx hb hown hcl hao hK hP hD hS hA hn rfl (by rw [hN]; omega) hr2.1 hr2.2 hd (fun q cB H1 hK1 hP1 hD1 hS1 => ?_)
      have hcc : cB = cA u := sm_RA_eq (hK1.2 tys.length (cB, .object C) (by simp)).2 (hK1.2 u (cA u, .object C) (by rw [List.getElem?_append_left (List.getElem?_eq_some_iff.mp tu).1]; exact tu)).2
      subst hcc
      refine go ad H1 locs ls q _ e1 hl hP1 hD1 hS1 ?_
      have e9 : (fun i : Nat => ((List.replicate n.toNatClampNeg (none : Option Nat))[i]?.join).map (fun j => if j = h.1.length then q else ad j)) = (fun _ => none) := by
        funext i
        by_cases hi9 : i < n.toNatClampNeg
        · simp [List.getElem?_replicate, hi9]
        · simp [List.getElem?_replicate, hi9]
      simp only [sm_e, List.length_replicate, e9]
    · cases hi
  · cases hi
/-- a class that is made: its fields at their defaults -/
def sm_No (cl : List vw_C) (WA : List Cond) (own : String) (idx ci : Nat) (fs : List (Option (Option Nat))) : Prop := ∃ (C : String) (T : u_T) (ty : Nat → FieldType),
  cl[ci]? = some (C, T, fs.length) ∧ (∀ w ∈ u_ws C T fs.length, w ∈ WA) ∧ (∀ k, k < fs.length → parseFieldDescriptor (T k).2.2.1 = some (ty k)) ∧ Cond.classLink own idx C ∈ WA ∧ Cond.instantiable C fs.length ∈ WA ∧ Cond.initialized C ∈ WA ∧
  (∀ k, k < fs.length → (fs[k]? = some none ∧ defaultValue (ty k) = .int 0) ∨ (fs[k]? = some (some none) ∧ defaultValue (ty k) = .null))
theorem sm_s_new (hx : p.tables.exec = Jvm.exec) (hb : c.code = cc) (hK : va_K D cl tys s) (hA : ∀ q, H0.size ≤ q → A q) (hn0 : n0 ≤ h.1.length) (hle : h.2.2.2.1 ≤ C1 ∧ h.2.2.2.2 ≤ S1) (hroom : C1 - r.2.2.2.2.2.2.1 ≤ R.cells ∧ S1 - r.2.2.2.2.2.2.2 ≤ R.slots) (hown : s.vm.findClass own = some m.cls) (hts : ∀ w ∈ WA, w.before args s = true) {f : Option (Nat × List (Option (Option Nat)))} (hf : ∀ ci fs, f = some (ci, fs) → sm_No cl WA own idx ci fs) (hd : decode cc pc = .ok (.new idx, 3)) (hi : sm_new (pc + 3) L S h f = some r) (k : sm_W p l e R s m args below meth c Q D cl A H0 nL cA b ad0 n0 C1 S1 r.1 r.2.1 r.2.2.1 r.2.2.2) : sm_W p l e R s m args below meth c Q D cl A H0 nL cA b ad0 n0 C1 S1 pc L S h := by
  unfold sm_new at hi
  split at hi
  · next ci fs =>
    obtain ⟨C, T, ty, hc, hin, hty, w1, w2, w3, hdef⟩ := hf ci fs rfl
    obtain ⟨hr2, go⟩ := sm_s_mk hn0 hle hroom hi k
    intro ad H locs ls e1 hP hD hS hl
    refine va_new hx hb hts hin ty hty hown (hts _ w1) (hts _ w2) (hts _ w3) hK hP hD hS hA hc (fs := fs.mapIdx (sm_f (fun _ => 0) (fun _ => 0))) ?_ hr2.1 hr2.2 hd (fun q H1 hP1 hD1 hS1 => ?_)
    · intro j hj
      show _ = (fs.mapIdx (sm_f (fun _ => 0) (fun _ => 0))).getD j Value.null
      rw [List.getD_eq_getElem?_getD, List.getElem?_mapIdx]
      rcases hdef j hj with ⟨a1, a2⟩ | ⟨a1, a2⟩
      · rw [a1, a2]; rfl
      · rw [a1, a2]; rfl
    · refine go ad H1 locs ls q _ e1 hl hP1 hD1 hS1 ?_
      simp only [sm_e, sm_uf_eq]
      congr 2
      apply List.ext_getElem?
      intro i
      rw [List.getElem?_mapIdx, List.getElem?_mapIdx]
      by_cases hil : i < fs.length
      · rcases hdef i hil with ⟨a1, -⟩ | ⟨a1, -⟩
        · rw [a1]; rfl
        · rw [a1]; rfl
      · rw [List.getElem?_eq_none (by omega)]
        rfl
  · cases hi
end SMN
