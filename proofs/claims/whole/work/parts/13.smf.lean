/-! ===== fields, references, new cells ===== -/
/-- a field's entry: its class, its place, and what the tables say of it (its own class's, or a nest mate's private one) -/
def sm_Fo (cl : List vw_C) (WA NW : List Cond) (own : String) (idx ci j bl : Nat) : Prop := ∃ (C : String) (T : u_T) (N : Nat) (ty : Nat → FieldType),
  cl[ci]? = some (C, T, N) ∧ j < N ∧ (∀ w ∈ u_ws C T N, w ∈ WA) ∧ (Cond.fieldLink own idx (T j).1 (T j).2.1 (T j).2.2.1 ∈ WA ∨ ∃ host, Cond.fieldLinkNest own idx (T j).1 (T j).2.1 (T j).2.2.1 host ∈ NW) ∧
  (∀ i, i < N → parseFieldDescriptor (T i).2.2.1 = some (ty i)) ∧ (∀ i, i < N → ∀ j, j < N → i ≠ j → (T i).2.1 ≠ (T j).2.1) ∧
  (bl = 0 → ty j = .int) ∧ (bl = 1 → ty j = .boolean) ∧ (bl = 2 → (∃ z, ty j = .object z) ∨ ∃ z, ty j = .array z)
/-- finals are put by constructors alone -/
def sm_Fp (cl : List vw_C) (WA : List Cond) (own : String) (idx : Nat) (ini : Bool) (ci j : Nat) : Prop := ∀ (C : String) (T : u_T) (N : Nat), cl[ci]? = some (C, T, N) → (T j).2.2.2 = true → ini = true ∧ (T j).1 = own ∧ Cond.fieldLink own idx (T j).1 (T j).2.1 (T j).2.2.1 ∈ WA
theorem sm_mapIdx_set {ad : Nat → Nat} {f : Nat → Int32} {fs : List (Option (Option Nat))} {k : Nat} {x : Int32} (hk : fs[k]? = some none) : fs.mapIdx (sm_f ad (upd f k x)) = (fs.mapIdx (sm_f ad f)).set k (.int x) := by
  apply List.ext_getElem?
  intro j
  have hl : k < fs.length := (List.getElem?_eq_some_iff.mp hk).1
  by_cases hj : j = k
  · subst hj
    rw [List.getElem?_set_self (by rw [List.length_mapIdx]; exact hl), List.getElem?_mapIdx, hk]
    simp [sm_f, upd]
  · rw [List.getElem?_set_ne (Ne.symm hj), List.getElem?_mapIdx, List.getElem?_mapIdx]
    cases fs[j]? with
    | none => rfl
    | some z =>
      match z with
      | none => simp [sm_f, upd, hj]
      | some none => rfl
      | some (some q) => rfl
section SMF
variable {p : Program} {l : Launch} {e : Env} {R : Room} {s : State} {m : MethodId} {args : Array Value} {below : List Frame} {meth : Method} {c : Code} {Q : State → Prop} {cc : ByteArray} {D : va_G} {cl : List vw_C} {tys : List (ClassId × FieldType)} {A : Nat → Prop} {H0 : Heap} {nL : Nat} {cA : Nat → ClassId} {b : Nat} {ad0 : Nat → Nat} {n0 C1 S1 : Nat} {pc : Nat} {L : sm_L} {S : List Value} {h : sm_H} {r : sm_P} {WA NW : List Cond} {own : String} {idx : Nat}
theorem sm_s_get (hx : p.tables.exec = Jvm.exec) (hb : c.code = cc) (hown : s.vm.findClass own = some m.cls) (hts : ∀ w ∈ WA, w.before args s = true) (hN : ∀ w ∈ NW, va_Nw w s) (hK : va_K D cl tys s) {f : Option (Nat × Nat × Nat)} (hf : ∀ ci j bl, f = some (ci, j, bl) → sm_Fo cl WA NW own idx ci j bl) (hd : decode cc pc = .ok (.getfield idx, 3)) (hi : sm_get (pc + 3) L S h f = some r) (k : sm_W p l e R s m args below meth c Q D cl A H0 nL cA b ad0 n0 C1 S1 r.1 r.2.1 r.2.2.1 r.2.2.2) : sm_W p l e R s m args below meth c Q D cl A H0 nL cA b ad0 n0 C1 S1 pc L S h := by
  unfold sm_get at hi
  split at hi
  · next ci j bl q rest =>
    obtain ⟨C, T, N, ty, hc, hj, hin, hlk, -⟩ := hf ci j bl rfl
    split at hi
    · next cj fs hz =>
      split at hi
      · next hcj =>
        subst hcj
        intro ad H locs ls e1 hP hD hS hl
        have go : ∀ v : Value, (fs.mapIdx (sm_f ad (h.2.1 q)))[j]? = some v → W p l e R s m args below meth c H locs (C1 - h.2.2.2.1) (S1 - h.2.2.2.2) Q (F0 m (pc + 3) ls (v :: rest.map (sm_v b ad))) → W p l e R s m args below meth c H locs (C1 - h.2.2.2.1) (S1 - h.2.2.2.2) Q (F0 m pc ls (.ref (ad q) :: rest.map (sm_v b ad))) := by
          intro v hv kk
          rcases hlk with hlk | ⟨host, hlk⟩
          · exact va_get hx hb hts hin hown hK hP q (sm_w_get hz) hc j hj (hts _ hlk) (fun _ h9 => h9) hv hd kk
          · exact va_getN hx hb hts hin hown hK hP q (sm_w_get hz) hc j hj (va_Nw.use rfl (hN _ hlk)) (fun _ h9 => h9) hv hd kk
        split at hi
        · next hfs =>
          cases hi
          exact go _ (by rw [List.getElem?_mapIdx, hfs]; rfl) (k ad H locs ls e1 hP hD hS hl)
        · next z hfs =>
          cases hi
          exact go _ (by rw [List.getElem?_mapIdx, hfs]; rfl) (k ad H locs ls e1 hP hD hS hl)
        · cases hi
      · cases hi
    · cases hi
  · cases hi
theorem sm_s_put (hx : p.tables.exec = Jvm.exec) (hb : c.code = cc) (hown : s.vm.findClass own = some m.cls) (hts : ∀ w ∈ WA, w.before args s = true) (hN : ∀ w ∈ NW, va_Nw w s) (hK : va_K D cl tys s) {f : Option (Nat × Nat × Nat)} {ini : Bool} (hini : ini = true → meth.name = "<init>") (hf : ∀ ci j bl, f = some (ci, j, bl) → sm_Fo cl WA NW own idx ci j bl) (hf2 : ∀ ci j bl, f = some (ci, j, bl) → sm_Fp cl WA own idx ini ci j) (hd : decode cc pc = .ok (.putfield idx, 3)) (hi : sm_put (pc + 3) L S h f = some r) (k : sm_W p l e R s m args below meth c Q D cl A H0 nL cA b ad0 n0 C1 S1 r.1 r.2.1 r.2.2.1 r.2.2.2) : sm_W p l e R s m args below meth c Q D cl A H0 nL cA b ad0 n0 C1 S1 pc L S h := by
  have gen : ∀ (ci j bl q : Nat) (fs : List (Option (Option Nat))) (v : Value) (rest : List Value) (ad : Nat → Nat) (H : Heap) (locs : List Loc) (ls : Array Slot), f = some (ci, j, bl) → h.1[q]? = some (.inl (ci, fs)) → j < fs.length → (∀ t : FieldType, ((bl = 0 → t = .int) ∧ (bl = 1 → t = .boolean) ∧ (bl = 2 → (∃ z, t = .object z) ∨ ∃ z, t = .array z)) → narrow t v = v ∧ fits t v = true) →
      va_P D cl (sm_w cA ad h) H → va_D A (sm_w cA ad h) → va_S A H0 H locs →
      (∀ (H1 : Heap) (locs1 : List Loc), va_P D cl ((sm_w cA ad h).set q (ad q, .inr (ci, (fs.mapIdx (sm_f ad (h.2.1 q))).set j v))) H1 → va_D A ((sm_w cA ad h).set q (ad q, .inr (ci, (fs.mapIdx (sm_f ad (h.2.1 q))).set j v))) → va_S A H0 H1 locs1 → W p l e R s m args below meth c H1 locs1 (C1 - h.2.2.2.1) (S1 - h.2.2.2.2) Q (F0 m (pc + 3) ls (rest.map (sm_v b ad)))) →
      W p l e R s m args below meth c H locs (C1 - h.2.2.2.1) (S1 - h.2.2.2.2) Q (F0 m pc ls (v :: .ref (ad q) :: rest.map (sm_v b ad))) := by
    intro ci j bl q fs v rest ad H locs ls hfe hz hjl hfit hP hD hS kk
    obtain ⟨C, T, N, ty, hc, hj, hin, hlk, hty, hnm, hbb⟩ := hf ci j bl hfe
    have hp := hf2 ci j bl hfe C T N hc
    obtain ⟨w1, w2⟩ := hfit (ty j) hbb
    have hl2 : j < (fs.mapIdx (sm_f ad (h.2.1 q))).length := by rw [List.length_mapIdx]; exact hjl
    by_cases hF : (T j).2.2.2 = true
    · obtain ⟨g0, g1, g2⟩ := hp hF
      exact va_putF hx hb hts hin ty hty hnm hown hK hP hD hS q (sm_w_get hz) hc j hj (hts _ g2) (fun _ h9 => h9) hF (hini g0) g1 (hty j hj) w1 w2 hl2 hd kk
    · have hF : (T j).2.2.2 = false := by simpa using hF
      rcases hlk with hlk | ⟨host, hlk⟩
      · exact va_put hx hb hts hin ty hty hnm hown hK hP hD hS q (sm_w_get hz) hc j hj (hts _ hlk) (fun _ h9 => h9) hF (hty j hj) w1 w2 hl2 hd kk
      · exact va_putN hx hb hts hin ty hty hnm hown hK hP hD hS q (sm_w_get hz) hc j hj (va_Nw.use rfl (hN _ hlk)) (fun _ h9 => h9) hF (hty j hj) w1 w2 hl2 hd kk
  unfold sm_put at hi
  split at hi
  · next ci j bl x q rest =>
    split at hi
    · next cj fs hz =>
      split at hi
      · next hcj =>
        obtain ⟨hcj, hfs, hbl⟩ := hcj
        subst hcj
        cases hi
        intro ad H locs ls e1 hP hD hS hl
        refine gen ci j bl q fs (.int x) rest ad H locs ls rfl hz (List.getElem?_eq_some_iff.mp hfs).1 ?_ hP hD hS (fun H1 locs1 hP1 hD1 hS1 => ?_)
        · intro t ht
          rcases hbl with rfl | ⟨rfl, hbl⟩
          · rw [ht.1 rfl]
            exact ⟨vp_nar_int x, rfl⟩
          · rw [ht.2.1 rfl]
            rcases hbl with rfl | rfl <;> exact ⟨by decide, by decide⟩
        · have ew := sm_w_mem (cA := cA) (ad := ad) (sh := h.1) (M := h.2.1) (M' := sm_up h.2.1 q j x) (J := h.2.2.1) (J' := h.2.2.1) (r := h.2.2.2) (r' := h.2.2.2) hz sm_up_ne (fun _ _ => rfl)
          simp only [sm_e, sm_up_eq, sm_mapIdx_set hfs] at ew
          exact k ad H1 locs1 ls e1 (by show va_P D cl (sm_w cA ad (h.1, sm_up h.2.1 q j x, h.2.2.1, h.2.2.2)) H1; rw [ew]; exact hP1) (by show va_D A (sm_w cA ad (h.1, sm_up h.2.1 q j x, h.2.2.1, h.2.2.2)); rw [ew]; exact hD1) hS1 hl
      · cases hi
    · cases hi
  · next ci j bl z q rest =>
    split at hi
    · next cj fs hz =>
      split at hi
      · next hcj =>
        obtain ⟨hcj, hb2, hfs⟩ := hcj
        subst hcj
        cases hi
        intro ad H locs ls e1 hP hD hS hl
        have hjl : j < fs.length := by
          cases h9 : fs[j]? with
          | none => rw [h9] at hfs; cases hfs
          | some _ => exact (List.getElem?_eq_some_iff.mp h9).1
        refine gen ci j bl q fs (.ref (ad z)) rest ad H locs ls rfl hz hjl ?_ hP hD hS (fun H1 locs1 hP1 hD1 hS1 => ?_)
        · intro t ht
          rcases ht.2.2 hb2 with ⟨z, rfl⟩ | ⟨z, rfl⟩
          · exact ⟨rfl, rfl⟩
          · exact ⟨rfl, rfl⟩
        · have ew := sm_w_shp (cA := cA) (ad := ad) (sh := h.1) (M := h.2.1) (J := h.2.2.1) (r := h.2.2.2) (r' := h.2.2.2) (k := q) (z' := .inl (ci, fs.set j (some (some z))))
          have e2 : (fs.set j (some (some z))).mapIdx (sm_f ad (h.2.1 q)) = (fs.mapIdx (sm_f ad (h.2.1 q))).set j (.ref (ad z)) := List.mapIdx_set
          simp only [sm_e, e2] at ew
          exact k ad H1 locs1 ls (fun k9 h9 => e1 k9 (by simpa using h9)) (by show va_P D cl (sm_w cA ad (h.1.set q (.inl (ci, fs.set j (some (some z)))), h.2.1, h.2.2.1, h.2.2.2)) H1; rw [ew]; exact hP1) (by show va_D A (sm_w cA ad (h.1.set q (.inl (ci, fs.set j (some (some z)))), h.2.1, h.2.2.1, h.2.2.2)); rw [ew]; exact hD1) hS1 hl
      · cases hi
    · cases hi
  · cases hi
theorem sm_s_aaload (hx : p.tables.exec = Jvm.exec) (hb : c.code = cc) (hK : va_K D cl tys s) (ht : ∀ t, t < 6 → ∃ ty, tys[t]? = some (cA t, ty)) (ht2 : ∀ t ty, 3 ≤ t → t < 6 → tys[t]? = some (cA t, ty) → ∃ C, ty = .object C) (hd : decode cc pc = .ok (.aaload, 1)) (hi : sm_aald (pc + 1) L S h = some r) (k : sm_W p l e R s m args below meth c Q D cl A H0 nL cA b ad0 n0 C1 S1 r.1 r.2.1 r.2.2.1 r.2.2.2) : sm_W p l e R s m args below meth c Q D cl A H0 nL cA b ad0 n0 C1 S1 pc L S h := by
  unfold sm_aald at hi
  split at hi
  · next i q rest =>
    split at hi
    · next t rs hz =>
      split at hi
      · next hc =>
        split at hi
        · next z hr =>
          cases hi
          obtain ⟨ty, h9⟩ := ht t hc.2.2.2
          obtain ⟨C, rfl⟩ := ht2 t ty hc.2.2.1 hc.2.2.2 h9
          intro ad H locs ls e1 hP hD hS hl
          refine va_aldq hx hb hK hP q t (sm_w_get hz) h9 (sm_inI hc.1 hc.2.1) hd ?_
          rw [hr]
          exact k ad H locs ls e1 hP hD hS hl
        · cases hi
      · cases hi
    · cases hi
  · cases hi
theorem sm_s_aastore (hx : p.tables.exec = Jvm.exec) (hb : c.code = cc) (hK : va_K D cl tys s) {ok : Nat → Nat → Bool} (hok : ∀ t ci, ok t ci = true → ∃ q, cl[ci]? = some q ∧ tys[t]? = some (cA t, .object q.1)) (hd : decode cc pc = .ok (.aastore, 1)) (hi : sm_aast (pc + 1) L S h ok = some r) (k : sm_W p l e R s m args below meth c Q D cl A H0 nL cA b ad0 n0 C1 S1 r.1 r.2.1 r.2.2.1 r.2.2.2) : sm_W p l e R s m args below meth c Q D cl A H0 nL cA b ad0 n0 C1 S1 pc L S h := by
  unfold sm_aast at hi
  split at hi
  · next z i q rest =>
    split at hi
    · next t rs ci fs hz hv =>
      split at hi
      · next hc =>
        cases hi
        obtain ⟨r0, hr0, ht⟩ := hok t ci hc.2.2
        intro ad H locs ls e1 hP hD hS hl
        refine va_astq hx hb hK hP hD hS q t z ci (sm_w_get hz) ht (sm_w_get hv) hr0 (sm_inI hc.1 hc.2.1) hd (fun H1 locs1 hP1 hD1 hS1 => ?_)
        have ew := sm_w_shp (cA := cA) (ad := ad) (sh := h.1) (M := h.2.1) (J := h.2.2.1) (r := h.2.2.2) (r' := h.2.2.2) (k := q) (z' := .inr (.inr (.inr (t, rs.set i.toNatClampNeg (some z)))))
        have e2 : (fun j => (((rs.set i.toNatClampNeg (some z))[j]?).join).map ad) = va_up (fun j => (rs[j]?.join).map ad) i.toNatClampNeg (some (ad z)) := by
          funext j
          have hl9 : i.toNatClampNeg < rs.length := by
            have h8 : i.toNatClampNeg = i.toInt.toNat := rfl
            omega
          by_cases hj : j = i.toNatClampNeg
          · subst hj
            rw [List.getElem?_set_self hl9]
            simp [va_up]
          · rw [List.getElem?_set_ne (Ne.symm hj)]
            simp [va_up, hj]
        simp only [sm_e, e2, List.length_set] at ew
        exact k ad H1 locs1 ls (fun k9 h9 => e1 k9 (by simpa using h9)) (by show va_P D cl (sm_w cA ad (h.1.set q (.inr (.inr (.inr (t, rs.set i.toNatClampNeg (some z))))), h.2.1, h.2.2.1, h.2.2.2)) H1; rw [ew]; exact hP1) (by show va_D A (sm_w cA ad (h.1.set q (.inr (.inr (.inr (t, rs.set i.toNatClampNeg (some z))))), h.2.1, h.2.2.1, h.2.2.2)); rw [ew]; exact hD1) hS1 hl
      · cases hi
    · cases hi
  · cases hi
end SMF
