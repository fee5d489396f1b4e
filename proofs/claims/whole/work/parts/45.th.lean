/-! ===== require and requireOpen throw ===== -/
theorem tx_same {s U : State} {k n : Nat} (h : s.sameButNew U [] k n) {a : Nat} {c : Cell} (hc : s.heap[a]? = some c) : U.heap[a]? = some c := by
  obtain ⟨-, -, -, -, -, h6⟩ := h
  obtain ⟨c', h1, h2, h3, h4⟩ := h6 a c hc
  have e : c'.slots = c.slots := Array.ext_getElem? fun i => h4 i (by simp)
  rw [h1, h2, e]
section TXT
variable {p : Program} {l : Launch} {e : Env} {R : Room} {s : State} {m : MethodId} {args : Array Value} {below : List Frame} {meth : Method} {c : Code} {D : va_G} {cl : List vw_C} {cA : Nat → ClassId} {cc : ByteArray} {pc : Nat} {ls : Array Slot}
theorem tx_tail (hx : p.tables.exec = Jvm.exec) (hb : c.code = cc) (hown : s.vm.findClass "VaultDevices" = some m.cls) (hlocks : meth.locks = false) (hno : c.exceptionTable.toList = []) (hsz : ls.size = c.maxLocals) (hts : ∀ w ∈ tb_WA, w.before args s = true) (hfl : l.flags = flags0) {x ix il ic : Nat} {cls tx : String} {q : Nat} (hcls : cls = tb_XC x) (hfit : Bundle.fit cls = true)
    (w1 : Cond.classLink "VaultDevices" ix cls ∈ tb_WA) (w2 : Cond.instantiable cls 6 ∈ tb_WA) (w3 : Cond.initialized cls ∈ tb_WA) (hat : ∀ a ∈ Bundle.ownAtoms "VaultDevices" ic cls ["java/lang/RuntimeException", "java/lang/Exception"], a.before args s = true) (hstr : vk_R "VaultDevices" il tx q s)
    (d1 : decode cc pc = .ok (.new ix, 3)) (d2 : decode cc (pc + 3) = .ok (.dup, 1)) (d3 : decode cc (pc + 3 + 1) = .ok (.ldc il, 2)) (d4 : decode cc (pc + 3 + 1 + 2) = .ok (.invokespecial ic, 3)) (d5 : decode cc (pc + 3 + 1 + 2 + 3) = .ok (.athrow, 1))
    (hR : 6 ≤ R.frames ∧ 1 ≤ R.cells ∧ 6 ≤ R.slots ∧ 100 ≤ R.locals) {A : Nat → Prop} {ad : Nat → Nat} {n0 : Nat} {h : sm_H} (hP : va_P D cl (sm_w cA ad h) s.heap) (hD : va_D A (sm_w cA ad h)) :
    W p l e R s m args below meth c s.heap [] 0 0 (sm_MT below (fun a t => sm_Qt D cl cA A ad n0 tb_XC x h a s t) s 1 6 A) (F0 m pc ls []) := by
  refine W.newc hx hb hown (hts _ w1) (hts _ w2) (hts _ w3) rfl d1 (by omega) (by omega) (fun cC kC g1 g2 g3 g4 => ?_)
  refine lv_dup (va := .ref s.heap.size) (rest := []) hx hb d2 rfl ?_
  refine va_ldcS hx hb hown hstr d3 ?_
  intro T hT XT
  have htr : e.platform.stackTraces = false := Launch.traces_off hfl XT.admits
  obtain ⟨U, st, run, ended, hWU, hsame, ce, hce, hoc⟩ := XT.ctorThrowS hx htr (own := "VaultDevices") (cls := cls) (names := ["java/lang/RuntimeException", "java/lang/Exception"]) (ic := ic) hown hfit (by decide +kernel) hat (fun _ h => by cases h) (a := s.heap.size) g1 g2 (by rw [hT]; simp) (Nat.le_refl _) (msg := .ref q) rfl (g := F0 m (pc + 3 + 1 + 2) ls [.ref q, .ref s.heap.size, .ref s.heap.size]) rfl hsz rfl rfl (rest := []) rfl (by rw [hb]; exact d4) (by rw [hb]; exact d5) (by rw [hno]; intro z hz; cases hz) (by show 2 + 3 < R.frames; omega) (by show 2 * 0 + 1 + (13 * (2 + 1) + 42) ≤ R.locals; omega) hlocks
  have hsame : s.sameButNew ({ U with vm := s.vm } : State) [] 1 6 := hsame
  have hkeep : ∀ (a : Nat) (c : Cell), s.heap[a]? = some c → U.heap[a]? = some c := fun a c hc => tx_same hsame hc
  have hkeep2 : ∀ a : Nat, a < s.heap.size → U.heap[a]? = s.heap[a]? := fun a ha => by
    have h9 : s.heap[a]? = some s.heap[a] := Array.getElem?_eq_getElem ha
    rw [h9]
    exact hkeep a _ h9
  refine ⟨U, st, s.heap.size, run, ended, ⟨⟨ad, fun _ _ => rfl, hP.kept (fun k q hq => hkeep2 _ (hP k q hq).lt), hD⟩, ⟨hsame.2.1, fun q hq _ => hkeep2 q hq⟩, ce, hce, by rw [hoc.vm]; rfl, ?_⟩, hWU, [], hsame, fun _ h => by cases h⟩
  rw [hWU.alike.findClass, ← hcls]
  exact hoc.cls
end TXT
theorem tx_atoms1 {b : Nat} {X : Nat × (Nat → Int32)} {fx : Nat → Prop} {s : State} {args : Array Value} (hts : ∀ w ∈ tb_WA, w.before args s = true) (hK : tx_KT b X fx s) : ∀ a ∈ Bundle.ownAtoms "VaultDevices" 190 tx_IA ["java/lang/RuntimeException", "java/lang/Exception"], a.before args s = true := by
  intro a ha
  rcases tx_own1 a ha with h | rfl | rfl | rfl | rfl | rfl | rfl | rfl | rfl
  · exact hts a h
  · exact tx_sf_ls hK.2.1
  · exact tx_sf_ls hK.2.2.1
  · exact tx_sf_ir hK.2.1
  · exact tx_sf_ir hK.2.2.1
  · obtain ⟨cC, kC, hfc, -⟩ := Cond.instantiable_spec (hts (.instantiable tx_IA 6) (by decide +kernel))
    simp [Cond.before, Cond.holds, Cond.value, hfc, sm_asg_refl]
  · exact va_Nw.use rfl (hK.2.2.2.2.2.2 _ (by decide +kernel))
  · exact va_Nw.use rfl (hK.2.2.2.2.2.2 _ (by decide +kernel))
  · exact va_Nw.use rfl (hK.2.2.2.2.2.2 _ (by decide +kernel))
theorem tx_atoms2 {b : Nat} {X : Nat × (Nat → Int32)} {fx : Nat → Prop} {s : State} {args : Array Value} (hts : ∀ w ∈ tb_WA, w.before args s = true) (hK : tx_KT b X fx s) : ∀ a ∈ Bundle.ownAtoms "VaultDevices" 197 tx_IS ["java/lang/RuntimeException", "java/lang/Exception"], a.before args s = true := by
  intro a ha
  rcases tx_own2 a ha with h | rfl | rfl | rfl | rfl | rfl | rfl | rfl | rfl
  · exact hts a h
  · exact tx_sf_ls hK.2.1
  · exact tx_sf_ls hK.2.2.1
  · exact tx_sf_ir hK.2.1
  · exact tx_sf_ir hK.2.2.1
  · obtain ⟨cC, kC, hfc, -⟩ := Cond.instantiable_spec (hts (.instantiable tx_IS 6) (by decide +kernel))
    simp [Cond.before, Cond.holds, Cond.value, hfc, sm_asg_refl]
  · exact va_Nw.use rfl (hK.2.2.2.2.2.2 _ (by decide +kernel))
  · exact va_Nw.use rfl (hK.2.2.2.2.2.2 _ (by decide +kernel))
  · exact va_Nw.use rfl (hK.2.2.2.2.2.2 _ (by decide +kernel))
set_option maxHeartbeats 4000000 in
theorem tx_Th {l : Launch} {D : va_G} {cA : Nat → ClassId} {b : Nat} {X : Nat × (Nat → Int32)} {fx : Nat → Prop} (hfl : l.flags = flags0) :
    ∀ (z : Nat) (vs : List Value) (h : sm_H) (x kc ks : Nat), sm_thr tb_T z vs h = some (x, kc, ks) → vs.all sm_c1 = true → vs.length ≤ (sm_nL tb_T z).1 → ∀ (d lw : Nat), kc ≤ h.2.2.2.1 → ks ≤ h.2.2.2.2 → 6 ≤ d → 100 ≤ lw → ∀ (ad : Nat → Nat) (sz : Nat),
      sm_MetT l (tb_nm z) (Cond.code (tb_nm z) (tb_bc z) (sm_nL tb_T z).1 (sm_rt tb_T z) :: tb_WA) { frames := d, cells := h.2.2.2.1 - (h.2.2.2.1 - kc), slots := h.2.2.2.2 - (h.2.2.2.2 - ks), locals := lw } (sm_Pc D tb_cl cA b tb_tyN tb_NW tb_AO (tx_KT b X fx) fx ad sz vs h) (fun st a t => sm_Qt D tb_cl cA (va_A (sm_w cA ad h) sz) ad h.1.length tb_XC x (h.1, h.2.1, h.2.2.1, h.2.2.2.1 - kc, h.2.2.2.2 - ks) a st t) (h.2.2.2.1 - (h.2.2.2.1 - kc)) (h.2.2.2.2 - (h.2.2.2.2 - ks)) (va_A (sm_w cA ad h) sz) := by
  intro z vs h x kc ks hz hvs hlen d lw hkc hks hd hlw ad sz
  have hz : tb_thr z vs h = some (x, kc, ks) := hz
  have ekc : h.2.2.2.1 - (h.2.2.2.1 - kc) = kc := by omega
  have eks : h.2.2.2.2 - (h.2.2.2.2 - ks) = ks := by omega
  rw [ekc, eks]
  unfold tb_thr at hz
  split at hz
  · next x0 =>
    split at hz
    · next hx0 =>
      subst hx0
      cases hz
      refine sm_MetT_ofW (cc := tb_bc 19) (maxL := (sm_nL tb_T 19).1) (ret := sm_rt tb_T 19) (by decide +kernel) rfl ?_
      intro p e s m args below meth c s₁ B hml hv
      obtain ⟨rfl, hsz, hPw, hDw, hK, hfx⟩ := hv
      have hts0 := atoms_spec (ws := Cond.code (tb_nm 19) (tb_bc 19) (sm_nL tb_T 19).1 (sm_rt tb_T 19) :: tb_WA) B.pre
      have hts : ∀ w ∈ tb_WA, w.before _ s = true := fun w hw => hts0 w (List.mem_cons_of_mem _ hw)
      have hown : s.vm.findClass "VaultDevices" = some m.cls := findClass_of_methodNamed B.named
      have hemp := B.noHandlers (hts0 _ List.mem_cons_self)
      have hno : c.exceptionTable.toList = [] := by
        have h0 : c.exceptionTable.size = 0 := by simpa [Array.isEmpty] using hemp
        exact List.eq_nil_of_length_eq_zero (by simpa using h0)
      subst hsz
      rw [lg_entry_eq]
      have hl := sm_entry (b := b) (ad := ad) (n := (sm_nL tb_T 19).1) hvs hlen
      generalize (lg_sl (List.map (sm_v b ad) [Value.int 0]) ++ List.replicate ((sm_nL tb_T 19).1 - (lg_sl (List.map (sm_v b ad) [Value.int 0])).length) Slot.unset).toArray = ls at hl ⊢
      have hb : c.code = tb_bc 19 := B.bytes
      have h0 : ls[0]? = some (.val (.int 0)) := (hl.2.2.2 0 (.int 0) rfl).1
      refine lv_iload_n (i := 0) B.exec hb (by decide +kernel : decode (tb_bc 19) 0 = .ok (.iload_n 0, 1)) rfl h0 ?_
      refine lv_if_ne (tgt := 14) B.exec hb (by decide +kernel : decode (tb_bc 19) 1 = .ok (.ifCond .ne 13, 3)) (by decide) (fun hc => absurd rfl hc) (fun _ => ?_)
      obtain ⟨q, hstr⟩ := hK.2.2.2.2.2.2.1
      exact tx_tail (pc := 4) (h := (h.1, h.2.1, h.2.2.1, h.2.2.2.1 - 1, h.2.2.2.2 - 6)) B.exec hb hown B.notSynchronized hno (hl.2.1.trans hml.symm) hts hfl (x := 0) (cls := tx_IA) rfl (by decide +kernel) (by decide +kernel : Cond.classLink "VaultDevices" 186 tx_IA ∈ tb_WA) (by decide +kernel) (by decide +kernel) (tx_atoms1 hts hK.2.2.2) hstr (by decide +kernel) (by decide +kernel) (by decide +kernel) (by decide +kernel) (by decide +kernel) ⟨hd, Nat.le_refl _, Nat.le_refl _, hlw⟩ hPw hDw.self
    · cases hz
  · next q0 hzz =>
    split at hz
    · next fs hq =>
      split at hz
      · next hc =>
        cases hz
        refine sm_MetT_ofW (cc := tb_bc 22) (maxL := (sm_nL tb_T 22).1) (ret := sm_rt tb_T 22) (by decide +kernel) rfl ?_
        intro p e s m args below meth c s₁ B hml hv
        obtain ⟨rfl, hsz, hPw, hDw, hK, hfx⟩ := hv
        have hts0 := atoms_spec (ws := Cond.code (tb_nm 22) (tb_bc 22) (sm_nL tb_T 22).1 (sm_rt tb_T 22) :: tb_WA) B.pre
        have hts : ∀ w ∈ tb_WA, w.before _ s = true := fun w hw => hts0 w (List.mem_cons_of_mem _ hw)
        have hown : s.vm.findClass "VaultDevices" = some m.cls := findClass_of_methodNamed B.named
        have hemp := B.noHandlers (hts0 _ List.mem_cons_self)
        have hno : c.exceptionTable.toList = [] := by
          have h0 : c.exceptionTable.size = 0 := by simpa [Array.isEmpty] using hemp
          exact List.eq_nil_of_length_eq_zero (by simpa using h0)
        subst hsz
        rw [lg_entry_eq]
        have hl := sm_entry (b := b) (ad := ad) (n := (sm_nL tb_T 22).1) hvs hlen
        generalize (lg_sl (List.map (sm_v b ad) [Value.ref q0]) ++ List.replicate ((sm_nL tb_T 22).1 - (lg_sl (List.map (sm_v b ad) [Value.ref q0])).length) Slot.unset).toArray = ls at hl ⊢
        have hb : c.code = tb_bc 22 := B.bytes
        have h0 : ls[0]? = some (.val (.ref (ad q0))) := (hl.2.2.2 0 (.ref q0) rfl).1
        refine lv_aload_n (i := 0) B.exec hb (by decide +kernel : decode (tb_bc 22) 0 = .ok (.aload_n 0, 1)) rfl h0 ?_
        refine va_getN (index := 56) (host := "VaultDevices") (C := "VaultDevices$Device") (T := tb_TX4) (N := 4) (ci := 4) (v := .int (h.2.1 q0 3)) B.exec hb hts tb_w4 hown hK.1 hPw q0 (sm_w_get hq) rfl 3 (by decide) (va_Nw.use rfl (hK.2.1 (.fieldLinkNest "VaultDevices" 56 "VaultDevices$Device" "locked" "Z" "VaultDevices") (by decide +kernel))) (fun _ h9 => h9) (by rw [List.getElem?_mapIdx, hc.1]; rfl) (by decide +kernel : decode (tb_bc 22) 1 = .ok (.getfield 56, 3)) ?_
        refine lv_if_eq (tgt := 17) B.exec hb (by decide +kernel : decode (tb_bc 22) 4 = .ok (.ifCond .eq 13, 3)) (by decide) (fun h9 => absurd h9 hc.2) (fun _ => ?_)
        obtain ⟨q, hstr⟩ := hK.2.2.2.2.2.2.2.1
        exact tx_tail (pc := 7) (h := (h.1, h.2.1, h.2.2.1, h.2.2.2.1 - 1, h.2.2.2.2 - 6)) B.exec hb hown B.notSynchronized hno (hl.2.1.trans hml.symm) hts hfl (x := 1) (cls := tx_IS) rfl (by decide +kernel) (by decide +kernel : Cond.classLink "VaultDevices" 193 tx_IS ∈ tb_WA) (by decide +kernel) (by decide +kernel) (tx_atoms2 hts hK.2.2.2) hstr (by decide +kernel) (by decide +kernel) (by decide +kernel) (by decide +kernel) (by decide +kernel) ⟨hd, Nat.le_refl _, Nat.le_refl _, hlw⟩ hPw hDw.self
      · cases hz
    · cases hz
  · cases hz
