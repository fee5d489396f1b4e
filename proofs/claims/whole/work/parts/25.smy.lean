/-! ===== a throwing call, in the small machine's words ===== -/
def sm_en (q : Nat × Nat × Nat × Nat) : ExceptionTableEntry := ⟨q.1, q.2.1, q.2.2.1, q.2.2.2⟩
/-- where a throw of the number x at pc is caught -/
def sm_Xo (WA : List Cond) (XC : Nat → String) (own : String) (bc : ByteArray) (nL : Nat) (eh : List (Nat × Nat × Nat × Nat)) (pc x pc' q : Nat) : Prop := ∃ (hs : List ((Nat × Nat × Nat × Nat) × Nat)) (hpc : Nat), hs.map (fun z => z.1) = eh ∧
  (∀ z ∈ hs, covers (sm_en z.1) pc = true ∧ z.1.2.2.2 ≠ 0 ∧ Cond.classLink own z.1.2.2.2 (XC z.2) ∈ WA ∧ z.2 < 2) ∧ x < 2 ∧ (hs.find? (fun z => z.2 == x)).map (fun z => z.1.2.2.1) = some hpc ∧ q < nL ∧
  ((decode bc hpc = .ok (.astore q, 2) ∧ pc' = hpc + 2) ∨ ∃ k : Fin 4, k.val = q ∧ decode bc hpc = .ok (.astore_n k, 1) ∧ pc' = hpc + 1)
section SMY
variable {p : Program} {l : Launch} {e : Env} {R : Room} {s : State} {m : MethodId} {args : Array Value} {below : List Frame} {meth : Method} {c : Code} {D : va_G} {cl : List vw_C} {A : Nat → Prop} {cA : Nat → ClassId} {b : Nat} {ad0 ad : Nat → Nat} {n0 C1 S1 pc nL x : Nat} {L : sm_L} {h h1 : sm_H} {XC : Nat → String} {H : Heap} {locs : List Loc} {ls : Array Slot} {rest vs : List Value}
/-- what a throwing callee leaves -/
def sm_Th (p : Program) (l : Launch) (e : Env) (R : Room) (s : State) (m : MethodId) (args : Array Value) (below : List Frame) (meth : Method) (c : Code) (D : va_G) (cl : List vw_C) (cA : Nat → ClassId) (ad : Nat → Nat) (XC : Nat → String) (x : Nat) (h h1 : sm_H) (H : Heap) (locs : List Loc) (cells slots mc ms pc : Nat) (ls : Array Slot) (st0 rest : List Value) : Prop :=
  ∀ T : State, T.heap = H → Stand p l e R s m args below meth c T locs cells slots → ∃ (a : Addr) (st₀ t V : State) (Lc : List Loc), st₀.heap = H ∧ Stand p l e R s m args below meth c V (locs ++ Lc) (cells + mc) (slots + ms) ∧ V.heap = t.heap ∧ V.vm = t.vm ∧ sm_Qt D cl cA (va_A (sm_w cA ad h) H.size) ad h.1.length XC x h1 a st₀ t ∧ (∀ q ∈ Lc, va_A (sm_w cA ad h) H.size q.base) ∧
      ∀ target, Steps p.tables e below ((V.setTop (F0 m pc ls rest)).pushFrame (.throwing a)) target → Steps p.tables e below (T.setTop (F0 m pc ls st0)) target
theorem sm_Th_mem {t : State} {Lc : List Loc} {ad' : Nat → Nat} (hA : ∀ q, s.heap.size ≤ q → A q) (hD : va_D A (sm_w cA ad h)) (hS : va_S A s.heap H locs) (hF1 : H.size ≤ t.heap.size) (hF2 : ∀ q : Nat, q < H.size → ¬ va_A (sm_w cA ad h) H.size q → t.heap[q]? = H[q]?) (hLc : ∀ q ∈ Lc, va_A (sm_w cA ad h) H.size q.base) (hD1 : va_D (va_A (sm_w cA ad h) H.size) (sm_w cA ad' h1)) :
    va_D A (sm_w cA ad' h1) ∧ va_S A s.heap t.heap (locs ++ Lc) := by
  have hAA : ∀ q, va_A (sm_w cA ad h) H.size q → A q := by
    intro q hq
    rcases hq with ⟨k, e, hq⟩ | hq
    · exact hD.2 k (q, e) hq
    · exact hA q (Nat.le_trans hS.1 hq)
  refine ⟨hD1.weaken fun _ q _ hq => hAA q.1 hq, Nat.le_trans hS.1 hF1, fun q hq1 hq2 => ?_, fun q hq => ?_⟩
  · rw [hF2 q (Nat.lt_of_lt_of_le hq1 hS.1) (fun z => hq2 (hAA q z))]
    exact hS.2.1 q hq1 hq2
  · rcases List.mem_append.mp hq with hq | hq
    · exact hS.2.2 q hq
    · exact hAA _ (hLc q hq)
theorem sm_y_out (hA : ∀ q, s.heap.size ≤ q → A q) (hn0 : n0 ≤ h.1.length) (hle : h.2.2.2.1 ≤ C1 ∧ h.2.2.2.2 ≤ S1) (hge : h1.2.2.2.1 ≤ h.2.2.2.1 ∧ h1.2.2.2.2 ≤ h.2.2.2.2 ∧ h.1.length ≤ h1.1.length) (e1 : ∀ k, ¬ (n0 ≤ k ∧ k < h.1.length) → ad k = ad0 k) (hD : va_D A (sm_w cA ad h)) (hS : va_S A s.heap H locs) (hlocks : meth.locks = false) (hno : c.exceptionTable.toList = []) {st0 : List Value}
    (hth : sm_Th p l e R s m args below meth c D cl cA ad XC x h h1 H locs (C1 - h.2.2.2.1) (S1 - h.2.2.2.2) (h.2.2.2.1 - h1.2.2.2.1) (h.2.2.2.2 - h1.2.2.2.2) pc ls st0 rest) :
    W p l e R s m args below meth c H locs (C1 - h.2.2.2.1) (S1 - h.2.2.2.2) (sm_Q D cl cA b XC below args s A ad0 n0 C1 S1 (.inr x) h1) (F0 m pc ls st0) := by
  intro T hT X
  obtain ⟨a, st₀, t, V, Lc, h0, XV, ev, em, ⟨⟨ad', ea, hP1, hD1⟩, ⟨hF1, hF2⟩, hcell⟩, hLc, hst⟩ := hth T hT X
  rw [h0] at hF1 hF2
  obtain ⟨g1, g2⟩ := sm_Th_mem hA hD hS hF1 hF2 hLc hD1
  obtain ⟨w1, w2, w3, w4, w5⟩ := XV.leaveThrown a (g := F0 m pc ls rest) rfl rfl rfl (by rw [hno]; intro z hz; cases hz) hlocks
  refine ⟨V.setFrames (.throwing a :: below), hst _ w1, a, w2, w3, ⟨⟨ad', fun k hk => ?_, by show va_P D cl (sm_w cA ad' h1) V.heap; rw [ev]; exact hP1, g1⟩, ?_, ?_⟩, w4, locs ++ Lc, ?_, g2.2.2⟩
  · by_cases hk2 : k < n0
    · rw [ea k (by omega), e1 k (by omega)]
    · rw [ea k (by omega), e1 k (by omega)]
  · exact ⟨by show s.heap.size ≤ V.heap.size; rw [ev]; exact g2.1, fun q hq1 hq2 => by show V.heap[q]? = _; rw [ev]; exact g2.2.1 q hq1 hq2⟩
  · obtain ⟨cell, k1, k2, k3⟩ := hcell
    exact ⟨cell, by show V.heap[a]? = _; rw [ev]; exact k1, k2, by show V.vm.findClass _ = _; rw [em]; exact k3⟩
  · have e9 : C1 - h1.2.2.2.1 = C1 - h.2.2.2.1 + (h.2.2.2.1 - h1.2.2.2.1) := by omega
    have e8 : S1 - h1.2.2.2.2 = S1 - h.2.2.2.2 + (h.2.2.2.2 - h1.2.2.2.2) := by omega
    rw [e9, e8]
    exact w5
theorem sm_y_in (hx : p.tables.exec = Jvm.exec) {cc : ByteArray} (hb : c.code = cc) {own : String} (hown : s.vm.findClass own = some m.cls) {WA : List Cond} (hts : ∀ w ∈ WA, w.before args s = true) (hNC : ∀ i j, i < 2 → j < 2 → i ≠ j → ∀ c t, s.vm.findClass (XC i) = some c → s.vm.findClass (XC j) = some t → s.vm.assignable c t = false)
    (hA : ∀ q, s.heap.size ≤ q → A q) (hn0 : n0 ≤ h.1.length) (hle : h.2.2.2.1 ≤ C1 ∧ h.2.2.2.2 ≤ S1) (hge : h1.2.2.2.1 ≤ h.2.2.2.1 ∧ h1.2.2.2.2 ≤ h.2.2.2.2 ∧ h.1.length ≤ h1.1.length) (e1 : ∀ k, ¬ (n0 ≤ k ∧ k < h.1.length) → ad k = ad0 k) (hD : va_D A (sm_w cA ad h)) (hS : va_S A s.heap H locs) (hls : sm_l b ad ls nL L) (hok : sm_ok2 L [] h h1 = true)
    {eh : List (Nat × Nat × Nat × Nat)} (het : c.exceptionTable.toList = eh.map sm_en) {pc' q : Nat} (hxo : sm_Xo WA XC own cc nL eh pc x pc' q) {st0 : List Value} {Q : State → Prop}
    (hth : sm_Th p l e R s m args below meth c D cl cA ad XC x h h1 H locs (C1 - h.2.2.2.1) (S1 - h.2.2.2.2) (h.2.2.2.1 - h1.2.2.2.1) (h.2.2.2.2 - h1.2.2.2.2) pc ls st0 rest)
    (kk : sm_W p l e R s m args below meth c Q D cl A s.heap nL cA b ad0 n0 C1 S1 pc' (L.set q none) [] h1) :
    W p l e R s m args below meth c H locs (C1 - h.2.2.2.1) (S1 - h.2.2.2.2) Q (F0 m pc ls st0) := by
  intro T hT X
  obtain ⟨a, st₀, t, V, Lc, h0, XV, ev, em, ⟨⟨ad', ea, hP1, hD1⟩, ⟨hF1, hF2⟩, cell, k1, k2, k3⟩, hLc, hst⟩ := hth T hT X
  rw [h0] at hF1 hF2
  obtain ⟨g1, g2⟩ := sm_Th_mem hA hD hS hF1 hF2 hLc hD1
  obtain ⟨hs, hpc, j1, j2, jx, j3, j4, j5⟩ := hxo
  have ga : ∀ k, k < h.1.length → ad' k = ad k := fun k hk => ea k (by omega)
  have gl : sm_l b ad' ls nL L := by
    unfold sm_ok2 at hok
    rw [Bool.or_eq_true] at hok
    rcases hok with hok | hok
    · have hz : h1.1.length = h.1.length := of_decide_eq_true hok
      have : ad' = ad := funext fun k => ea k (by omega)
      subst this
      exact hls
    · unfold sm_wfL at hok
      rw [Bool.and_eq_true] at hok
      exact sm_l_ext hls hok.1 ga
  have hVW : s.WarmedH V.vm := XV.warmed
  have hcls : s.vm.findClass (XC x) = some cell.cls := by rw [← hVW.alike.findClass, em]; exact k3
  have hVm : ((V.setTop (F0 m pc ls rest)).pushFrame (.throwing a)).vm = V.vm := rfl
  have hVh : ((V.setTop (F0 m pc ls rest)).pushFrame (.throwing a)).heap = V.heap := rfl
  obtain ⟨vm', hW2, hfd⟩ := sm_find (args := args) (XC := XC) (own := own) (g := F0 m pc ls rest) (x := x) (a := a) (cell := cell) XV.admits hown k2 hcls jx hNC (hs.map (fun z => (sm_en z.1, z.2))) (by
    intro z hz
    obtain ⟨z', hz', rfl⟩ := List.mem_map.mp hz
    obtain ⟨c1, c2, c3, c4⟩ := j2 z' hz'
    exact ⟨c1, c2, hts _ c3, c4⟩) hpc (by
    rw [List.find?_map, Option.map_map]
    exact j3) ((V.setTop (F0 m pc ls rest)).pushFrame (.throwing a)) (by rw [hVh, ev]; exact k1) (by rw [hVm]; exact hVW)
  have hmeth : ((V.setTop (F0 m pc ls rest)).pushFrame (.throwing a)).vm.method? (F0 m pc ls rest).method = some meth := XV.method'
  have hFd : sm_Fd e ((V.setTop (F0 m pc ls rest)).pushFrame (.throwing a)) (F0 m pc ls rest) a hpc vm' := by
    intro Q E d acts
    rw [W.findHandler_eq hmeth XV.code, het, ← j1, List.map_map]
    have := hfd Q E d acts
    rw [List.map_map] at this
    exact this
  have X2 : Stand p l e R s m args below meth c (V.setVm vm') (locs ++ Lc) (C1 - h.2.2.2.1 + (h.2.2.2.1 - h1.2.2.2.1)) (S1 - h.2.2.2.2 + (h.2.2.2.2 - h1.2.2.2.2)) := XV.noted hW2
  have e9 : C1 - h1.2.2.2.1 = C1 - h.2.2.2.1 + (h.2.2.2.1 - h1.2.2.2.1) := by omega
  have e8 : S1 - h1.2.2.2.2 = S1 - h.2.2.2.2 + (h.2.2.2.2 - h1.2.2.2.2) := by omega
  have go : W p l e R s m args below meth c t.heap (locs ++ Lc) (C1 - h.2.2.2.1 + (h.2.2.2.1 - h1.2.2.2.1)) (S1 - h.2.2.2.2 + (h.2.2.2.2 - h1.2.2.2.2)) Q (F0 m hpc ls [.ref a]) := by
    have fin : ∀ ls' : Array Slot, lv_has ls' nL ((q, Value.ref a) :: (sm_lv b ad' L).filter (fun z => !(z.1 == q) && !(z.1 + 1 == q && z.2.category == 2))) → W p l e R s m args below meth c t.heap (locs ++ Lc) (C1 - h.2.2.2.1 + (h.2.2.2.1 - h1.2.2.2.1)) (S1 - h.2.2.2.2 + (h.2.2.2.2 - h1.2.2.2.2)) Q (F0 m pc' ls' []) := by
      intro ls' hl'
      have k9 := kk ad' t.heap (locs ++ Lc) ls' (fun k hk => by
        by_cases hk2 : k < n0
        · rw [ea k (by omega), e1 k (by omega)]
        · rw [ea k (by omega), e1 k (by omega)]) hP1 g1 g2 (sm_l_un gl hl')
      rw [e9, e8] at k9
      exact k9
    rcases j5 with ⟨hd, rfl⟩ | ⟨k, rfl, hd, rfl⟩
    · exact lv_astore hx hb hd (sm_l_has gl) j4 rfl fin
    · exact lv_astore_n hx hb hd rfl (sm_l_has gl) j4 rfl fin
  obtain ⟨t2, a1, b1⟩ := go (V.setVm vm') ev X2
  have hAt : At V (F0 m pc ls rest).method c below := XV.here
  exact ⟨t2, hst t2 (sm_caught hAt hFd a1), b1⟩
end SMY
