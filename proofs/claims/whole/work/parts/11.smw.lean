/-! ===== the small machine's memory as a world of the kit ===== -/
def sm_v (b : Nat) (ad : Nat → Nat) : Value → Value
  | .ref k => .ref (ad k)
  | .retAddr _ => .ref b
  | v => v
def sm_f (ad : Nat → Nat) (f : Nat → Int32) (i : Nat) : Option (Option Nat) → Value
  | none => .int (f i)
  | some none => .null
  | some (some q) => .ref (ad q)
def sm_e (cA : Nat → ClassId) (ad : Nat → Nat) (M : sm_M) (J : sm_J) (k : Nat) : sm_S → va_E
  | .inl (ci, fs) => .inr (ci, fs.mapIdx (sm_f ad (M k)))
  | .inr (.inl (t, n)) => .inl (cA t, n, .inl (M k))
  | .inr (.inr (.inl n)) => .inl (cA 2, n, .inr (.inl (J k)))
  | .inr (.inr (.inr (t, rs))) => .inl (cA t, rs.length, .inr (.inr (.inr (.inr (fun i => (rs[i]?.join).map ad)))))
def sm_w (cA : Nat → ClassId) (ad : Nat → Nat) (h : sm_H) : va_W := h.1.mapIdx (fun k z => (ad k, sm_e cA ad h.2.1 h.2.2.1 k z))
theorem sm_w_get {cA : Nat → ClassId} {ad : Nat → Nat} {h : sm_H} {k : Nat} {z : sm_S} (hk : h.1[k]? = some z) : (sm_w cA ad h)[k]? = some (ad k, sm_e cA ad h.2.1 h.2.2.1 k z) := by
  unfold sm_w
  rw [List.getElem?_mapIdx, hk]
  rfl
theorem sm_w_any {cA : Nat → ClassId} {ad : Nat → Nat} {h : sm_H} {k : Nat} {q : Nat × va_E} (hk : (sm_w cA ad h)[k]? = some q) : ∃ z, h.1[k]? = some z ∧ q = (ad k, sm_e cA ad h.2.1 h.2.2.1 k z) := by
  unfold sm_w at hk
  rw [List.getElem?_mapIdx] at hk
  cases hz : h.1[k]? with
  | none => rw [hz] at hk; cases hk
  | some z => rw [hz] at hk; exact ⟨z, rfl, (Option.some.inj hk).symm⟩
/-- the same list of shapes, another memory, that differs in one cell alone -/
theorem sm_w_mem {cA : Nat → ClassId} {ad : Nat → Nat} {sh : List sm_S} {M M' : sm_M} {J J' : sm_J} {r r' : Nat × Nat} {k : Nat} {z : sm_S} (hk : sh[k]? = some z) (hM : ∀ a, a ≠ k → M' a = M a) (hJ : ∀ a, a ≠ k → J' a = J a) :
    sm_w cA ad (sh, M', J', r') = (sm_w cA ad (sh, M, J, r)).set k (ad k, sm_e cA ad M' J' k z) := by
  apply List.ext_getElem?
  intro j
  by_cases hj : j = k
  · subst hj
    have hl : j < (sm_w cA ad (sh, M, J, r)).length := by
      unfold sm_w
      rw [List.length_mapIdx]
      exact (List.getElem?_eq_some_iff.mp hk).1
    rw [List.getElem?_set_self hl]
    exact sm_w_get hk
  · rw [List.getElem?_set_ne (Ne.symm hj)]
    unfold sm_w
    rw [List.getElem?_mapIdx, List.getElem?_mapIdx]
    show Option.map _ sh[j]? = Option.map _ sh[j]?
    cases sh[j]? with
    | none => rfl
    | some z' =>
      show some _ = some _
      congr 2
      match z' with
      | .inl (ci, fs) => simp only [sm_e, hM j hj]
      | .inr (.inl (t, n)) => simp only [sm_e, hM j hj]
      | .inr (.inr (.inl n)) => simp only [sm_e, hJ j hj]
      | .inr (.inr (.inr (t, rs))) => rfl
/-- one shape is another, the memory is the same -/
theorem sm_w_shp {cA : Nat → ClassId} {ad : Nat → Nat} {sh : List sm_S} {M : sm_M} {J : sm_J} {r r' : Nat × Nat} {k : Nat} {z' : sm_S} :
    sm_w cA ad (sh.set k z', M, J, r') = (sm_w cA ad (sh, M, J, r)).set k (ad k, sm_e cA ad M J k z') := by
  unfold sm_w
  exact List.mapIdx_set
/-- the locals: what is listed is held -/
def sm_l (b : Nat) (ad : Nat → Nat) (ls : Array Slot) (nL : Nat) (L : sm_L) : Prop := L.length = nL ∧ ls.size = nL ∧ lv_wf ls ∧ ∀ (i : Nat) (v : Value), L[i]? = some (some v) → ls[i]? = some (.val (sm_v b ad v)) ∧ (sm_v b ad v).category = 1
def sm_lv (b : Nat) (ad : Nat → Nat) (L : sm_L) : List (Nat × Value) := (List.range L.length).filterMap (fun i => match L[i]? with
  | some (some v) => some (i, sm_v b ad v)
  | _ => none)
theorem sm_lv_mem {b : Nat} {ad : Nat → Nat} {L : sm_L} {q : Nat × Value} : q ∈ sm_lv b ad L ↔ ∃ v, L[q.1]? = some (some v) ∧ q.2 = sm_v b ad v := by
  unfold sm_lv
  rw [List.mem_filterMap]
  constructor
  · rintro ⟨i, -, hi⟩
    split at hi
    · next v hv => cases hi; exact ⟨v, hv, rfl⟩
    · cases hi
  · rintro ⟨v, h1, h2⟩
    refine ⟨q.1, List.mem_range.mpr (List.getElem?_eq_some_iff.mp h1).1, ?_⟩
    rw [h1]
    show some (q.1, sm_v b ad v) = some q
    rw [← h2]
theorem sm_l_has {b : Nat} {ad : Nat → Nat} {ls : Array Slot} {nL : Nat} {L : sm_L} (h : sm_l b ad ls nL L) : lv_has ls nL (sm_lv b ad L) := by
  refine ⟨h.2.1, h.2.2.1, fun q hq => ?_⟩
  obtain ⟨v, h1, h2⟩ := sm_lv_mem.mp hq
  rw [h2]
  exact (h.2.2.2 q.1 v h1).1
theorem sm_l_st {b : Nat} {ad : Nat → Nat} {ls ls' : Array Slot} {nL i : Nat} {L : sm_L} {v : Value} (h : sm_l b ad ls nL L) (hc : (sm_v b ad v).category = 1) (h' : lv_has ls' nL ((i, sm_v b ad v) :: (sm_lv b ad L).filter (fun q => !(q.1 == i) && !(q.1 + 1 == i && q.2.category == 2)))) : sm_l b ad ls' nL (L.set i (some v)) := by
  refine ⟨by rw [List.length_set]; exact h.1, h'.1, h'.2.1, fun j w hj => ?_⟩
  by_cases e : j = i
  · subst e
    have hl : j < L.length := by
      have := (List.getElem?_eq_some_iff.mp hj).1
      rwa [List.length_set] at this
    rw [List.getElem?_set_self hl] at hj
    cases hj
    exact ⟨h'.2.2 (j, sm_v b ad v) List.mem_cons_self, hc⟩
  · rw [List.getElem?_set_ne (Ne.symm e)] at hj
    have hw := h.2.2.2 j w hj
    refine ⟨h'.2.2 (j, sm_v b ad w) (List.mem_cons_of_mem _ (List.mem_filter.mpr ⟨sm_lv_mem.mpr ⟨w, hj, rfl⟩, ?_⟩)), hw.2⟩
    simp [e, hw.2]
theorem sm_l_un {b : Nat} {ad : Nat → Nat} {ls ls' : Array Slot} {nL i : Nat} {L : sm_L} {x : Value} (h : sm_l b ad ls nL L) (h' : lv_has ls' nL ((i, x) :: (sm_lv b ad L).filter (fun q => !(q.1 == i) && !(q.1 + 1 == i && q.2.category == 2)))) : sm_l b ad ls' nL (L.set i none) := by
  refine ⟨by rw [List.length_set]; exact h.1, h'.1, h'.2.1, fun j w hj => ?_⟩
  by_cases e : j = i
  · subst e
    have hl : j < L.length := by
      have := (List.getElem?_eq_some_iff.mp hj).1
      rwa [List.length_set] at this
    rw [List.getElem?_set_self hl] at hj
    cases hj
  · rw [List.getElem?_set_ne (Ne.symm e)] at hj
    have hw := h.2.2.2 j w hj
    refine ⟨h'.2.2 (j, sm_v b ad w) (List.mem_cons_of_mem _ (List.mem_filter.mpr ⟨sm_lv_mem.mpr ⟨w, hj, rfl⟩, ?_⟩)), hw.2⟩
    simp [e, hw.2]
