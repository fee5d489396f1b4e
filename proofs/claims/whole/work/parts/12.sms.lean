/-! ===== each instruction of the small machine is one of the machine ===== -/
def sm_W (p : Program) (l : Launch) (e : Env) (R : Room) (s : State) (m : MethodId) (args : Array Value) (below : List Frame) (meth : Method) (c : Code) (Q : State → Prop) (D : va_G) (cl : List vw_C) (A : Nat → Prop) (H0 : Heap) (nL : Nat) (cA : Nat → ClassId) (b : Nat) (ad0 : Nat → Nat) (n0 C1 S1 : Nat) (pc : Nat) (L : sm_L) (S : List Value) (h : sm_H) : Prop :=
  ∀ (ad : Nat → Nat) (H : Heap) (locs : List Loc) (ls : Array Slot), (∀ k, ¬ (n0 ≤ k ∧ k < h.1.length) → ad k = ad0 k) → va_P D cl (sm_w cA ad h) H → va_D A (sm_w cA ad h) → va_S A H0 H locs → sm_l b ad ls nL L →
    W p l e R s m args below meth c H locs (C1 - h.2.2.2.1) (S1 - h.2.2.2.2) Q (F0 m pc ls (S.map (sm_v b ad)))
theorem sm_inI {i : Int32} {n : Nat} (h1 : 0 ≤ i.toInt) (h2 : i.toInt < n) : vp_in i n := vp_in_iff.mpr ⟨h1, h2⟩
theorem sm_up_ne {M : sm_M} {k i : Nat} {v : Int32} : ∀ a, a ≠ k → sm_up M k i v a = M a := fun _ h => if_neg h
theorem sm_up_eq {M : sm_M} {k i : Nat} {v : Int32} : sm_up M k i v k = upd (M k) i v := if_pos rfl
theorem sm_uf_ne {M : sm_M} {k : Nat} {f : Nat → Int32} : ∀ a, a ≠ k → sm_uf M k f a = M a := fun _ h => if_neg h
theorem sm_uf_eq {M : sm_M} {k : Nat} {f : Nat → Int32} : sm_uf M k f k = f := if_pos rfl
theorem sm_uj_ne {J : sm_J} {k i : Nat} {v : Int64} : ∀ a, a ≠ k → sm_uj J k i v a = J a := fun _ h => if_neg h
theorem sm_uj_eq {J : sm_J} {k i : Nat} {v : Int64} : sm_uj J k i v k = vp_updL (J k) i v := if_pos rfl
section SMS
variable {p : Program} {l : Launch} {e : Env} {R : Room} {s : State} {m : MethodId} {args : Array Value} {below : List Frame} {meth : Method} {c : Code} {Q : State → Prop} {cc : ByteArray} {D : va_G} {cl : List vw_C} {tys : List (ClassId × FieldType)} {A : Nat → Prop} {H0 : Heap} {nL : Nat} {cA : Nat → ClassId} {b : Nat} {ad0 : Nat → Nat} {n0 C1 S1 : Nat} {pc : Nat} {L : sm_L} {S : List Value} {h : sm_H} {r : sm_P}
theorem sm_s_iconst (hx : p.tables.exec = Jvm.exec) (hb : c.code = cc) {n : Int} (hd : decode cc pc = .ok (.iconst n, 1)) (hi : some (pc + 1, L, .int (Int32.ofInt n) :: S, h) = some r) (k : sm_W p l e R s m args below meth c Q D cl A H0 nL cA b ad0 n0 C1 S1 r.1 r.2.1 r.2.2.1 r.2.2.2) : sm_W p l e R s m args below meth c Q D cl A H0 nL cA b ad0 n0 C1 S1 pc L S h := by
  cases hi
  intro ad H locs ls e1 hP hD hS hl
  exact lv_iconst hx hb hd rfl (k ad H locs ls e1 hP hD hS hl)
theorem sm_s_bipush (hx : p.tables.exec = Jvm.exec) (hb : c.code = cc) {n : Int} (hd : decode cc pc = .ok (.bipush n, 2)) (hi : some (pc + 2, L, .int (Int8.ofInt n).toInt32 :: S, h) = some r) (k : sm_W p l e R s m args below meth c Q D cl A H0 nL cA b ad0 n0 C1 S1 r.1 r.2.1 r.2.2.1 r.2.2.2) : sm_W p l e R s m args below meth c Q D cl A H0 nL cA b ad0 n0 C1 S1 pc L S h := by
  cases hi
  intro ad H locs ls e1 hP hD hS hl
  exact lv_bipush hx hb hd rfl (k ad H locs ls e1 hP hD hS hl)
theorem sm_s_sipush (hx : p.tables.exec = Jvm.exec) (hb : c.code = cc) {n : Int} (hd : decode cc pc = .ok (.sipush n, 3)) (hi : some (pc + 3, L, .int (Int16.ofInt n).toInt32 :: S, h) = some r) (k : sm_W p l e R s m args below meth c Q D cl A H0 nL cA b ad0 n0 C1 S1 r.1 r.2.1 r.2.2.1 r.2.2.2) : sm_W p l e R s m args below meth c Q D cl A H0 nL cA b ad0 n0 C1 S1 pc L S h := by
  cases hi
  intro ad H locs ls e1 hP hD hS hl
  exact lv_sipush hx hb hd rfl (k ad H locs ls e1 hP hD hS hl)
theorem sm_s_lconst (hx : p.tables.exec = Jvm.exec) (hb : c.code = cc) {n : Fin 2} (hd : decode cc pc = .ok (.lconst n, 1)) (hi : some (pc + 1, L, .long (Int64.ofNat n.val) :: S, h) = some r) (k : sm_W p l e R s m args below meth c Q D cl A H0 nL cA b ad0 n0 C1 S1 r.1 r.2.1 r.2.2.1 r.2.2.2) : sm_W p l e R s m args below meth c Q D cl A H0 nL cA b ad0 n0 C1 S1 pc L S h := by
  cases hi
  intro ad H locs ls e1 hP hD hS hl
  exact lv_lconst hx hb hd rfl (k ad H locs ls e1 hP hD hS hl)
theorem sm_s_iload (hx : p.tables.exec = Jvm.exec) (hb : c.code = cc) {i : Nat} (hd : decode cc pc = .ok (.iload i, 2)) (hi : sm_lint (pc + 2) L S h i = some r) (k : sm_W p l e R s m args below meth c Q D cl A H0 nL cA b ad0 n0 C1 S1 r.1 r.2.1 r.2.2.1 r.2.2.2) : sm_W p l e R s m args below meth c Q D cl A H0 nL cA b ad0 n0 C1 S1 pc L S h := by
  unfold sm_lint at hi
  split at hi
  · next x hL =>
    cases hi
    intro ad H locs ls e1 hP hD hS hl
    exact lv_iload hx hb hd (hl.2.2.2 _ _ hL).1 (k ad H locs ls e1 hP hD hS hl)
  · cases hi
theorem sm_s_iload_n (hx : p.tables.exec = Jvm.exec) (hb : c.code = cc) {i : Fin 4} (hd : decode cc pc = .ok (.iload_n i, 1)) (hi : sm_lint (pc + 1) L S h i.val = some r) (k : sm_W p l e R s m args below meth c Q D cl A H0 nL cA b ad0 n0 C1 S1 r.1 r.2.1 r.2.2.1 r.2.2.2) : sm_W p l e R s m args below meth c Q D cl A H0 nL cA b ad0 n0 C1 S1 pc L S h := by
  unfold sm_lint at hi
  split at hi
  · next x hL =>
    cases hi
    intro ad H locs ls e1 hP hD hS hl
    exact lv_iload_n hx hb hd rfl (hl.2.2.2 _ _ hL).1 (k ad H locs ls e1 hP hD hS hl)
  · cases hi
theorem sm_s_aload (hx : p.tables.exec = Jvm.exec) (hb : c.code = cc) {i : Nat} (hd : decode cc pc = .ok (.aload i, 2)) (hi : sm_lref (pc + 2) L S h i = some r) (k : sm_W p l e R s m args below meth c Q D cl A H0 nL cA b ad0 n0 C1 S1 r.1 r.2.1 r.2.2.1 r.2.2.2) : sm_W p l e R s m args below meth c Q D cl A H0 nL cA b ad0 n0 C1 S1 pc L S h := by
  unfold sm_lref at hi
  split at hi
  · next x hL =>
    cases hi
    intro ad H locs ls e1 hP hD hS hl
    exact lv_aload hx hb hd (hl.2.2.2 _ _ hL).1 (k ad H locs ls e1 hP hD hS hl)
  · next x hL =>
    cases hi
    intro ad H locs ls e1 hP hD hS hl
    exact lv_aload hx hb hd (hl.2.2.2 _ _ hL).1 (k ad H locs ls e1 hP hD hS hl)
  · cases hi
theorem sm_s_aload_n (hx : p.tables.exec = Jvm.exec) (hb : c.code = cc) {i : Fin 4} (hd : decode cc pc = .ok (.aload_n i, 1)) (hi : sm_lref (pc + 1) L S h i.val = some r) (k : sm_W p l e R s m args below meth c Q D cl A H0 nL cA b ad0 n0 C1 S1 r.1 r.2.1 r.2.2.1 r.2.2.2) : sm_W p l e R s m args below meth c Q D cl A H0 nL cA b ad0 n0 C1 S1 pc L S h := by
  unfold sm_lref at hi
  split at hi
  · next x hL =>
    cases hi
    intro ad H locs ls e1 hP hD hS hl
    exact lv_aload_n hx hb hd rfl (hl.2.2.2 _ _ hL).1 (k ad H locs ls e1 hP hD hS hl)
  · next x hL =>
    cases hi
    intro ad H locs ls e1 hP hD hS hl
    exact lv_aload_n hx hb hd rfl (hl.2.2.2 _ _ hL).1 (k ad H locs ls e1 hP hD hS hl)
  · cases hi
theorem sm_s_istore (hx : p.tables.exec = Jvm.exec) (hb : c.code = cc) {i : Nat} (hi0 : i < nL) (hd : decode cc pc = .ok (.istore i, 2)) (hi : sm_sint (pc + 2) L S h i = some r) (k : sm_W p l e R s m args below meth c Q D cl A H0 nL cA b ad0 n0 C1 S1 r.1 r.2.1 r.2.2.1 r.2.2.2) : sm_W p l e R s m args below meth c Q D cl A H0 nL cA b ad0 n0 C1 S1 pc L S h := by
  unfold sm_sint at hi
  split at hi
  · cases hi
    intro ad H locs ls e1 hP hD hS hl
    exact lv_istore hx hb hd (sm_l_has hl) hi0 rfl (fun ls' hl' => k ad H locs ls' e1 hP hD hS (sm_l_st hl rfl hl'))
  · cases hi
theorem sm_s_istore_n (hx : p.tables.exec = Jvm.exec) (hb : c.code = cc) {i : Fin 4} (hi0 : i.val < nL) (hd : decode cc pc = .ok (.istore_n i, 1)) (hi : sm_sint (pc + 1) L S h i.val = some r) (k : sm_W p l e R s m args below meth c Q D cl A H0 nL cA b ad0 n0 C1 S1 r.1 r.2.1 r.2.2.1 r.2.2.2) : sm_W p l e R s m args below meth c Q D cl A H0 nL cA b ad0 n0 C1 S1 pc L S h := by
  unfold sm_sint at hi
  split at hi
  · cases hi
    intro ad H locs ls e1 hP hD hS hl
    exact lv_istore_n hx hb hd rfl (sm_l_has hl) hi0 rfl (fun ls' hl' => k ad H locs ls' e1 hP hD hS (sm_l_st hl rfl hl'))
  · cases hi
theorem sm_s_astore (hx : p.tables.exec = Jvm.exec) (hb : c.code = cc) {i : Nat} (hi0 : i < nL) (hd : decode cc pc = .ok (.astore i, 2)) (hi : sm_sref (pc + 2) L S h i = some r) (k : sm_W p l e R s m args below meth c Q D cl A H0 nL cA b ad0 n0 C1 S1 r.1 r.2.1 r.2.2.1 r.2.2.2) : sm_W p l e R s m args below meth c Q D cl A H0 nL cA b ad0 n0 C1 S1 pc L S h := by
  unfold sm_sref at hi
  split at hi
  · cases hi
    intro ad H locs ls e1 hP hD hS hl
    exact lv_astore hx hb hd (sm_l_has hl) hi0 rfl (fun ls' hl' => k ad H locs ls' e1 hP hD hS (sm_l_st hl rfl hl'))
  · cases hi
theorem sm_s_astore_n (hx : p.tables.exec = Jvm.exec) (hb : c.code = cc) {i : Fin 4} (hi0 : i.val < nL) (hd : decode cc pc = .ok (.astore_n i, 1)) (hi : sm_sref (pc + 1) L S h i.val = some r) (k : sm_W p l e R s m args below meth c Q D cl A H0 nL cA b ad0 n0 C1 S1 r.1 r.2.1 r.2.2.1 r.2.2.2) : sm_W p l e R s m args below meth c Q D cl A H0 nL cA b ad0 n0 C1 S1 pc L S h := by
  unfold sm_sref at hi
  split at hi
  · cases hi
    intro ad H locs ls e1 hP hD hS hl
    exact lv_astore_n hx hb hd rfl (sm_l_has hl) hi0 rfl (fun ls' hl' => k ad H locs ls' e1 hP hD hS (sm_l_st hl rfl hl'))
  · cases hi
theorem sm_s_iinc (hx : p.tables.exec = Jvm.exec) (hb : c.code = cc) {i : Nat} {n : Int} (hi0 : i < nL) (hd : decode cc pc = .ok (.iinc i n, 3)) (hi : sm_inc (pc + 3) L S h i n = some r) (k : sm_W p l e R s m args below meth c Q D cl A H0 nL cA b ad0 n0 C1 S1 r.1 r.2.1 r.2.2.1 r.2.2.2) : sm_W p l e R s m args below meth c Q D cl A H0 nL cA b ad0 n0 C1 S1 pc L S h := by
  unfold sm_inc at hi
  split at hi
  · next x hL =>
    cases hi
    intro ad H locs ls e1 hP hD hS hl
    obtain ⟨j, hj⟩ := List.getElem?_of_mem (sm_lv_mem (b := b) (ad := ad) (q := (i, .int x)).mpr ⟨_, hL, rfl⟩)
    exact lv_iinc hx hb hd (sm_l_has hl) hj rfl hi0 rfl (fun ls' hl' => k ad H locs ls' e1 hP hD hS (sm_l_st (v := .int _) hl rfl hl'))
  · cases hi
theorem sm_s_iadd (hx : p.tables.exec = Jvm.exec) (hb : c.code = cc) (hd : decode cc pc = .ok (.iadd, 1)) (hi : sm_bin (pc + 1) L S h (fun x y => x + y) = some r) (k : sm_W p l e R s m args below meth c Q D cl A H0 nL cA b ad0 n0 C1 S1 r.1 r.2.1 r.2.2.1 r.2.2.2) : sm_W p l e R s m args below meth c Q D cl A H0 nL cA b ad0 n0 C1 S1 pc L S h := by
  unfold sm_bin at hi
  split at hi
  · cases hi
    intro ad H locs ls e1 hP hD hS hl
    exact lv_iadd hx hb hd (k ad H locs ls e1 hP hD hS hl)
  · cases hi
theorem sm_s_isub (hx : p.tables.exec = Jvm.exec) (hb : c.code = cc) (hd : decode cc pc = .ok (.isub, 1)) (hi : sm_bin (pc + 1) L S h (fun x y => x - y) = some r) (k : sm_W p l e R s m args below meth c Q D cl A H0 nL cA b ad0 n0 C1 S1 r.1 r.2.1 r.2.2.1 r.2.2.2) : sm_W p l e R s m args below meth c Q D cl A H0 nL cA b ad0 n0 C1 S1 pc L S h := by
  unfold sm_bin at hi
  split at hi
  · cases hi
    intro ad H locs ls e1 hP hD hS hl
    exact lv_isub hx hb hd (k ad H locs ls e1 hP hD hS hl)
  · cases hi
theorem sm_s_imul (hx : p.tables.exec = Jvm.exec) (hb : c.code = cc) (hd : decode cc pc = .ok (.imul, 1)) (hi : sm_bin (pc + 1) L S h (fun x y => x * y) = some r) (k : sm_W p l e R s m args below meth c Q D cl A H0 nL cA b ad0 n0 C1 S1 r.1 r.2.1 r.2.2.1 r.2.2.2) : sm_W p l e R s m args below meth c Q D cl A H0 nL cA b ad0 n0 C1 S1 pc L S h := by
  unfold sm_bin at hi
  split at hi
  · cases hi
    intro ad H locs ls e1 hP hD hS hl
    exact lv_imul hx hb hd (k ad H locs ls e1 hP hD hS hl)
  · cases hi
theorem sm_s_iand (hx : p.tables.exec = Jvm.exec) (hb : c.code = cc) (hd : decode cc pc = .ok (.iand, 1)) (hi : sm_bin (pc + 1) L S h (fun x y => x &&& y) = some r) (k : sm_W p l e R s m args below meth c Q D cl A H0 nL cA b ad0 n0 C1 S1 r.1 r.2.1 r.2.2.1 r.2.2.2) : sm_W p l e R s m args below meth c Q D cl A H0 nL cA b ad0 n0 C1 S1 pc L S h := by
  unfold sm_bin at hi
  split at hi
  · cases hi
    intro ad H locs ls e1 hP hD hS hl
    exact lv_iand hx hb hd (k ad H locs ls e1 hP hD hS hl)
  · cases hi
theorem sm_s_ior (hx : p.tables.exec = Jvm.exec) (hb : c.code = cc) (hd : decode cc pc = .ok (.ior, 1)) (hi : sm_bin (pc + 1) L S h (fun x y => x ||| y) = some r) (k : sm_W p l e R s m args below meth c Q D cl A H0 nL cA b ad0 n0 C1 S1 r.1 r.2.1 r.2.2.1 r.2.2.2) : sm_W p l e R s m args below meth c Q D cl A H0 nL cA b ad0 n0 C1 S1 pc L S h := by
  unfold sm_bin at hi
  split at hi
  · cases hi
    intro ad H locs ls e1 hP hD hS hl
    exact lv_ior hx hb hd (k ad H locs ls e1 hP hD hS hl)
  · cases hi
theorem sm_s_ixor (hx : p.tables.exec = Jvm.exec) (hb : c.code = cc) (hd : decode cc pc = .ok (.ixor, 1)) (hi : sm_bin (pc + 1) L S h (fun x y => x ^^^ y) = some r) (k : sm_W p l e R s m args below meth c Q D cl A H0 nL cA b ad0 n0 C1 S1 r.1 r.2.1 r.2.2.1 r.2.2.2) : sm_W p l e R s m args below meth c Q D cl A H0 nL cA b ad0 n0 C1 S1 pc L S h := by
  unfold sm_bin at hi
  split at hi
  · cases hi
    intro ad H locs ls e1 hP hD hS hl
    exact lv_ixor hx hb hd (k ad H locs ls e1 hP hD hS hl)
  · cases hi
theorem sm_s_ishl (hx : p.tables.exec = Jvm.exec) (hb : c.code = cc) (hd : decode cc pc = .ok (.ishl, 1)) (hi : sm_bin (pc + 1) L S h (fun x y => x <<< (y &&& 31)) = some r) (k : sm_W p l e R s m args below meth c Q D cl A H0 nL cA b ad0 n0 C1 S1 r.1 r.2.1 r.2.2.1 r.2.2.2) : sm_W p l e R s m args below meth c Q D cl A H0 nL cA b ad0 n0 C1 S1 pc L S h := by
  unfold sm_bin at hi
  split at hi
  · cases hi
    intro ad H locs ls e1 hP hD hS hl
    exact lv_ishl hx hb hd (k ad H locs ls e1 hP hD hS hl)
  · cases hi
theorem sm_s_ishr (hx : p.tables.exec = Jvm.exec) (hb : c.code = cc) (hd : decode cc pc = .ok (.ishr, 1)) (hi : sm_bin (pc + 1) L S h (fun x y => x >>> (y &&& 31)) = some r) (k : sm_W p l e R s m args below meth c Q D cl A H0 nL cA b ad0 n0 C1 S1 r.1 r.2.1 r.2.2.1 r.2.2.2) : sm_W p l e R s m args below meth c Q D cl A H0 nL cA b ad0 n0 C1 S1 pc L S h := by
  unfold sm_bin at hi
  split at hi
  · cases hi
    intro ad H locs ls e1 hP hD hS hl
    exact lv_ishr hx hb hd (k ad H locs ls e1 hP hD hS hl)
  · cases hi
theorem sm_tgt_eq {pc : Nat} {off : Int} (h : 0 ≤ (pc : Int) + off) : (pc : Int) + off = (sm_tgt pc off : Int) := (Int.toNat_of_nonneg h).symm
theorem sm_sel_t {c : ClassFile.Cond} {x y : Int32} {a b : Nat} (h : sm_cnd c x y) : sm_sel c x y a b = a := @if_pos _ (sm_dec c x y) h _ _ _
theorem sm_sel_f {c : ClassFile.Cond} {x y : Int32} {a b : Nat} (h : ¬ sm_cnd c x y) : sm_sel c x y a b = b := @if_neg _ (sm_dec c x y) h _ _ _
theorem sm_s_if (hx : p.tables.exec = Jvm.exec) (hb : c.code = cc) {q : ClassFile.Cond} {off : Int} (hd : decode cc pc = .ok (.ifCond q off, 3)) (hi : sm_br pc off L S h q = some r) (k : sm_W p l e R s m args below meth c Q D cl A H0 nL cA b ad0 n0 C1 S1 r.1 r.2.1 r.2.2.1 r.2.2.2) : sm_W p l e R s m args below meth c Q D cl A H0 nL cA b ad0 n0 C1 S1 pc L S h := by
  unfold sm_br at hi
  split at hi
  · split at hi
    · next ht =>
      cases hi
      intro ad H locs ls e1 hP hD hS hl
      have hp := sm_tgt_eq ht
      cases q
      · refine lv_if_eq hx hb hd hp (fun hc => ?_) (fun hc => ?_)
        · have k := k ad H locs ls e1 hP hD hS hl
          rw [sm_sel_t (c := .eq) hc] at k
          exact k
        · have k := k ad H locs ls e1 hP hD hS hl
          rw [sm_sel_f (c := .eq) (hc)] at k
          exact k
      · refine lv_if_ne hx hb hd hp (fun hc => ?_) (fun hc => ?_)
        · have k := k ad H locs ls e1 hP hD hS hl
          rw [sm_sel_t (c := .ne) hc] at k
          exact k
        · have k := k ad H locs ls e1 hP hD hS hl
          rw [sm_sel_f (c := .ne) (fun z => z hc)] at k
          exact k
      · refine lv_if_lt hx hb hd hp (fun hc => ?_) (fun hc => ?_)
        · have k := k ad H locs ls e1 hP hD hS hl
          rw [sm_sel_t (c := .lt) hc] at k
          exact k
        · have k := k ad H locs ls e1 hP hD hS hl
          rw [sm_sel_f (c := .lt) (hc)] at k
          exact k
      · refine lv_if_ge hx hb hd hp (fun hc => ?_) (fun hc => ?_)
        · have k := k ad H locs ls e1 hP hD hS hl
          rw [sm_sel_t (c := .ge) hc] at k
          exact k
        · have k := k ad H locs ls e1 hP hD hS hl
          rw [sm_sel_f (c := .ge) (hc)] at k
          exact k
      · refine lv_if_gt hx hb hd hp (fun hc => ?_) (fun hc => ?_)
        · have k := k ad H locs ls e1 hP hD hS hl
          rw [sm_sel_t (c := .gt) hc] at k
          exact k
        · have k := k ad H locs ls e1 hP hD hS hl
          rw [sm_sel_f (c := .gt) (hc)] at k
          exact k
      · refine lv_if_le hx hb hd hp (fun hc => ?_) (fun hc => ?_)
        · have k := k ad H locs ls e1 hP hD hS hl
          rw [sm_sel_t (c := .le) hc] at k
          exact k
        · have k := k ad H locs ls e1 hP hD hS hl
          rw [sm_sel_f (c := .le) (hc)] at k
          exact k
    · cases hi
  · cases hi
theorem sm_s_icmp (hx : p.tables.exec = Jvm.exec) (hb : c.code = cc) {q : ClassFile.Cond} {off : Int} (hd : decode cc pc = .ok (.if_icmp q off, 3)) (hi : sm_br2 pc off L S h q = some r) (k : sm_W p l e R s m args below meth c Q D cl A H0 nL cA b ad0 n0 C1 S1 r.1 r.2.1 r.2.2.1 r.2.2.2) : sm_W p l e R s m args below meth c Q D cl A H0 nL cA b ad0 n0 C1 S1 pc L S h := by
  unfold sm_br2 at hi
  split at hi
  · split at hi
    · next ht =>
      cases hi
      intro ad H locs ls e1 hP hD hS hl
      have hp := sm_tgt_eq ht
      cases q
      · refine lv_icmp_eq hx hb hd hp (fun hc => ?_) (fun hc => ?_)
        · have k := k ad H locs ls e1 hP hD hS hl
          rw [sm_sel_t (c := .eq) hc] at k
          exact k
        · have k := k ad H locs ls e1 hP hD hS hl
          rw [sm_sel_f (c := .eq) (hc)] at k
          exact k
      · refine lv_icmp_ne hx hb hd hp (fun hc => ?_) (fun hc => ?_)
        · have k := k ad H locs ls e1 hP hD hS hl
          rw [sm_sel_t (c := .ne) hc] at k
          exact k
        · have k := k ad H locs ls e1 hP hD hS hl
          rw [sm_sel_f (c := .ne) (fun z => z hc)] at k
          exact k
      · refine lv_icmp_lt hx hb hd hp (fun hc => ?_) (fun hc => ?_)
        · have k := k ad H locs ls e1 hP hD hS hl
          rw [sm_sel_t (c := .lt) hc] at k
          exact k
        · have k := k ad H locs ls e1 hP hD hS hl
          rw [sm_sel_f (c := .lt) (hc)] at k
          exact k
      · refine lv_icmp_ge hx hb hd hp (fun hc => ?_) (fun hc => ?_)
        · have k := k ad H locs ls e1 hP hD hS hl
          rw [sm_sel_t (c := .ge) hc] at k
          exact k
        · have k := k ad H locs ls e1 hP hD hS hl
          rw [sm_sel_f (c := .ge) (hc)] at k
          exact k
      · refine lv_icmp_gt hx hb hd hp (fun hc => ?_) (fun hc => ?_)
        · have k := k ad H locs ls e1 hP hD hS hl
          rw [sm_sel_t (c := .gt) hc] at k
          exact k
        · have k := k ad H locs ls e1 hP hD hS hl
          rw [sm_sel_f (c := .gt) (hc)] at k
          exact k
      · refine lv_icmp_le hx hb hd hp (fun hc => ?_) (fun hc => ?_)
        · have k := k ad H locs ls e1 hP hD hS hl
          rw [sm_sel_t (c := .le) hc] at k
          exact k
        · have k := k ad H locs ls e1 hP hD hS hl
          rw [sm_sel_f (c := .le) (hc)] at k
          exact k
    · cases hi
  · cases hi
theorem sm_s_goto (hx : p.tables.exec = Jvm.exec) (hb : c.code = cc) {off : Int} (hd : decode cc pc = .ok (.goto off, 3)) (hi : sm_jmp pc off L S h = some r) (k : sm_W p l e R s m args below meth c Q D cl A H0 nL cA b ad0 n0 C1 S1 r.1 r.2.1 r.2.2.1 r.2.2.2) : sm_W p l e R s m args below meth c Q D cl A H0 nL cA b ad0 n0 C1 S1 pc L S h := by
  unfold sm_jmp at hi
  split at hi
  · next ht =>
    cases hi
    intro ad H locs ls e1 hP hD hS hl
    exact lv_goto hx hb hd (sm_tgt_eq ht) (k ad H locs ls e1 hP hD hS hl)
  · cases hi
theorem sm_s_table (hx : p.tables.exec = Jvm.exec) (hb : c.code = cc) {d lo hi0 : Int} {offs : Array Int} {len : Nat} (hd : decode cc pc = .ok (.tableswitch d lo hi0 offs, len)) (hi : sm_tab pc L S h d lo hi0 offs = some r) (k : sm_W p l e R s m args below meth c Q D cl A H0 nL cA b ad0 n0 C1 S1 r.1 r.2.1 r.2.2.1 r.2.2.2) : sm_W p l e R s m args below meth c Q D cl A H0 nL cA b ad0 n0 C1 S1 pc L S h := by
  unfold sm_tab at hi
  split at hi
  · split at hi
    · next hc =>
      unfold sm_jmp at hi
      split at hi
      · next ht =>
        cases hi
        intro ad H locs ls e1 hP hD hS hl
        exact lv_tableOut hx hb hd hc (sm_tgt_eq ht) (k ad H locs ls e1 hP hD hS hl)
      · cases hi
    · next hc =>
      split at hi
      · next off ho =>
        unfold sm_jmp at hi
        split at hi
        · next ht =>
          cases hi
          intro ad H locs ls e1 hP hD hS hl
          exact lv_tableIn hx hb hd (fun z => hc (Or.inl z)) (fun z => hc (Or.inr z)) ho (sm_tgt_eq ht) (k ad H locs ls e1 hP hD hS hl)
        · cases hi
      · cases hi
  · cases hi
theorem sm_s_pop (hx : p.tables.exec = Jvm.exec) (hb : c.code = cc) (hd : decode cc pc = .ok (.pop, 1)) (hi : sm_pop (pc + 1) L S h = some r) (k : sm_W p l e R s m args below meth c Q D cl A H0 nL cA b ad0 n0 C1 S1 r.1 r.2.1 r.2.2.1 r.2.2.2) : sm_W p l e R s m args below meth c Q D cl A H0 nL cA b ad0 n0 C1 S1 pc L S h := by
  unfold sm_pop at hi
  split at hi
  · cases hi
    intro ad H locs ls e1 hP hD hS hl
    exact lv_pop hx hb hd rfl (k ad H locs ls e1 hP hD hS hl)
  · cases hi
    intro ad H locs ls e1 hP hD hS hl
    exact lv_pop hx hb hd rfl (k ad H locs ls e1 hP hD hS hl)
  · cases hi
theorem sm_s_dup (hx : p.tables.exec = Jvm.exec) (hb : c.code = cc) (hd : decode cc pc = .ok (.dup, 1)) (hi : sm_dup (pc + 1) L S h = some r) (k : sm_W p l e R s m args below meth c Q D cl A H0 nL cA b ad0 n0 C1 S1 r.1 r.2.1 r.2.2.1 r.2.2.2) : sm_W p l e R s m args below meth c Q D cl A H0 nL cA b ad0 n0 C1 S1 pc L S h := by
  unfold sm_dup at hi
  split at hi
  · cases hi
    intro ad H locs ls e1 hP hD hS hl
    exact lv_dup hx hb hd rfl (k ad H locs ls e1 hP hD hS hl)
  · cases hi
    intro ad H locs ls e1 hP hD hS hl
    exact lv_dup hx hb hd rfl (k ad H locs ls e1 hP hD hS hl)
  · cases hi
theorem sm_s_dup_x1 (hx : p.tables.exec = Jvm.exec) (hb : c.code = cc) (hd : decode cc pc = .ok (.dup_x1, 1)) (hi : sm_dup_x1 (pc + 1) L S h = some r) (k : sm_W p l e R s m args below meth c Q D cl A H0 nL cA b ad0 n0 C1 S1 r.1 r.2.1 r.2.2.1 r.2.2.2) : sm_W p l e R s m args below meth c Q D cl A H0 nL cA b ad0 n0 C1 S1 pc L S h := by
  unfold sm_dup_x1 at hi
  split at hi
  · cases hi
    intro ad H locs ls e1 hP hD hS hl
    exact lv_dup_x1 hx hb hd rfl rfl (k ad H locs ls e1 hP hD hS hl)
  · cases hi
    intro ad H locs ls e1 hP hD hS hl
    exact lv_dup_x1 hx hb hd rfl rfl (k ad H locs ls e1 hP hD hS hl)
  · cases hi
theorem sm_s_dup_x2 (hx : p.tables.exec = Jvm.exec) (hb : c.code = cc) (hd : decode cc pc = .ok (.dup_x2, 1)) (hi : sm_dup_x2 (pc + 1) L S h = some r) (k : sm_W p l e R s m args below meth c Q D cl A H0 nL cA b ad0 n0 C1 S1 r.1 r.2.1 r.2.2.1 r.2.2.2) : sm_W p l e R s m args below meth c Q D cl A H0 nL cA b ad0 n0 C1 S1 pc L S h := by
  unfold sm_dup_x2 at hi
  split at hi
  · cases hi
    intro ad H locs ls e1 hP hD hS hl
    exact lv_dup_x2 hx hb hd rfl rfl rfl (k ad H locs ls e1 hP hD hS hl)
  · cases hi
theorem sm_s_dup2 (hx : p.tables.exec = Jvm.exec) (hb : c.code = cc) (hd : decode cc pc = .ok (.dup2, 1)) (hi : sm_dup2 (pc + 1) L S h = some r) (k : sm_W p l e R s m args below meth c Q D cl A H0 nL cA b ad0 n0 C1 S1 r.1 r.2.1 r.2.2.1 r.2.2.2) : sm_W p l e R s m args below meth c Q D cl A H0 nL cA b ad0 n0 C1 S1 pc L S h := by
  unfold sm_dup2 at hi
  split at hi
  · cases hi
    intro ad H locs ls e1 hP hD hS hl
    exact lv_dup2_11 hx hb hd rfl rfl (k ad H locs ls e1 hP hD hS hl)
  · cases hi
    intro ad H locs ls e1 hP hD hS hl
    exact lv_dup2_11 hx hb hd rfl rfl (k ad H locs ls e1 hP hD hS hl)
  · cases hi
theorem sm_s_i2l (hx : p.tables.exec = Jvm.exec) (hb : c.code = cc) (hd : decode cc pc = .ok (.i2l, 1)) (hi : sm_i2l (pc + 1) L S h = some r) (k : sm_W p l e R s m args below meth c Q D cl A H0 nL cA b ad0 n0 C1 S1 r.1 r.2.1 r.2.2.1 r.2.2.2) : sm_W p l e R s m args below meth c Q D cl A H0 nL cA b ad0 n0 C1 S1 pc L S h := by
  unfold sm_i2l at hi
  split at hi
  · cases hi
    intro ad H locs ls e1 hP hD hS hl
    exact lv_i2l hx hb hd rfl (k ad H locs ls e1 hP hD hS hl)
  · cases hi
theorem sm_s_lcmp (hx : p.tables.exec = Jvm.exec) (hb : c.code = cc) (hd : decode cc pc = .ok (.lcmp, 1)) (hi : sm_lcmp (pc + 1) L S h = some r) (k : sm_W p l e R s m args below meth c Q D cl A H0 nL cA b ad0 n0 C1 S1 r.1 r.2.1 r.2.2.1 r.2.2.2) : sm_W p l e R s m args below meth c Q D cl A H0 nL cA b ad0 n0 C1 S1 pc L S h := by
  unfold sm_lcmp at hi
  split at hi
  · cases hi
    intro ad H locs ls e1 hP hD hS hl
    exact W.lcmp hx hb hd (k ad H locs ls e1 hP hD hS hl)
  · cases hi
theorem sm_s_iaload (hx : p.tables.exec = Jvm.exec) (hb : c.code = cc) (hK : va_K D cl tys s) (ht : tys[0]? = some (cA 0, .int)) {X : Nat × (Nat → Int32)} (hX : va_X b X.1 X.2 s H0) (hbl : b < H0.size) (hbA : ¬ A b) (hd : decode cc pc = .ok (.iaload, 1)) (hi : sm_ald (pc + 1) L S h 0 X = some r) (k : sm_W p l e R s m args below meth c Q D cl A H0 nL cA b ad0 n0 C1 S1 r.1 r.2.1 r.2.2.1 r.2.2.2) : sm_W p l e R s m args below meth c Q D cl A H0 nL cA b ad0 n0 C1 S1 pc L S h := by
  unfold sm_ald at hi
  split at hi
  · split at hi
    · next hz =>
      split at hi
      · next hc =>
        cases hi
        obtain ⟨rfl, hc1, hc2⟩ := hc
        intro ad H locs ls e1 hP hD hS hl
        exact va_iald hx hb hK hP _ 0 (sm_w_get hz) ht (sm_inI hc1 hc2) hd (k ad H locs ls e1 hP hD hS hl)
      · cases hi
    · cases hi
  · split at hi
    · next hc =>
      cases hi
      intro ad H locs ls e1 hP hD hS hl
      exact va_sld hx hb hX hbl hbA hS (sm_inI hc.2.1 hc.2.2) hd (k ad H locs ls e1 hP hD hS hl)
    · cases hi
  · cases hi
theorem sm_s_baload (hx : p.tables.exec = Jvm.exec) (hb : c.code = cc) (hK : va_K D cl tys s) (ht : tys[1]? = some (cA 1, .boolean)) {X : Nat × (Nat → Int32)} (hX : va_X b X.1 X.2 s H0) (hbl : b < H0.size) (hbA : ¬ A b) (hd : decode cc pc = .ok (.baload, 1)) (hi : sm_ald (pc + 1) L S h 1 X = some r) (k : sm_W p l e R s m args below meth c Q D cl A H0 nL cA b ad0 n0 C1 S1 r.1 r.2.1 r.2.2.1 r.2.2.2) : sm_W p l e R s m args below meth c Q D cl A H0 nL cA b ad0 n0 C1 S1 pc L S h := by
  unfold sm_ald at hi
  split at hi
  · split at hi
    · next hz =>
      split at hi
      · next hc =>
        cases hi
        obtain ⟨rfl, hc1, hc2⟩ := hc
        intro ad H locs ls e1 hP hD hS hl
        exact va_zald hx hb hK hP _ 1 (sm_w_get hz) ht (sm_inI hc1 hc2) hd (k ad H locs ls e1 hP hD hS hl)
      · cases hi
    · cases hi
  · split at hi
    · next hc => exact absurd hc.1 (by decide)
    · cases hi
  · cases hi
theorem sm_s_iastore (hx : p.tables.exec = Jvm.exec) (hb : c.code = cc) (hK : va_K D cl tys s) (ht : tys[0]? = some (cA 0, .int)) (hd : decode cc pc = .ok (.iastore, 1)) (hi : sm_ast (pc + 1) L S h 0 = some r) (k : sm_W p l e R s m args below meth c Q D cl A H0 nL cA b ad0 n0 C1 S1 r.1 r.2.1 r.2.2.1 r.2.2.2) : sm_W p l e R s m args below meth c Q D cl A H0 nL cA b ad0 n0 C1 S1 pc L S h := by
  unfold sm_ast at hi
  split at hi
  · next x i q rest =>
    split at hi
    · next u n hz =>
      split at hi
      · next hc =>
        cases hi
        have hu := hc.1
        subst hu
        intro ad H locs ls e1 hP hD hS hl
        refine va_iast hx hb hK hP hD hS q 0 (sm_w_get hz) ht (sm_inI hc.2.1 hc.2.2.1) hd (fun H1 locs1 hP1 hD1 hS1 => ?_)
        have ew := sm_w_mem (cA := cA) (ad := ad) (sh := h.1) (M := h.2.1) (M' := sm_up h.2.1 q i.toNatClampNeg x) (J := h.2.2.1) (J' := h.2.2.1) (r := h.2.2.2) (r' := h.2.2.2) hz sm_up_ne (fun _ _ => rfl)
        simp only [sm_e, sm_up_eq] at ew
        exact k ad H1 locs1 ls e1 (by show va_P D cl (sm_w cA ad (h.1, sm_up h.2.1 q i.toNatClampNeg x, h.2.2.1, h.2.2.2)) H1; rw [ew]; exact hP1) (by show va_D A (sm_w cA ad (h.1, sm_up h.2.1 q i.toNatClampNeg x, h.2.2.1, h.2.2.2)); rw [ew]; exact hD1) hS1 hl
      · cases hi
    · cases hi
  · cases hi
theorem sm_s_bastore (hx : p.tables.exec = Jvm.exec) (hb : c.code = cc) (hK : va_K D cl tys s) (ht : tys[1]? = some (cA 1, .boolean)) (hd : decode cc pc = .ok (.bastore, 1)) (hi : sm_ast (pc + 1) L S h 1 = some r) (k : sm_W p l e R s m args below meth c Q D cl A H0 nL cA b ad0 n0 C1 S1 r.1 r.2.1 r.2.2.1 r.2.2.2) : sm_W p l e R s m args below meth c Q D cl A H0 nL cA b ad0 n0 C1 S1 pc L S h := by
  unfold sm_ast at hi
  split at hi
  · next x i q rest =>
    split at hi
    · next u n hz =>
      split at hi
      · next hc =>
        cases hi
        have hu := hc.1
        subst hu
        intro ad H locs ls e1 hP hD hS hl
        refine va_zast hx hb hK hP hD hS q 1 (sm_w_get hz) ht (sm_inI hc.2.1 hc.2.2.1) hd (fun H1 locs1 hP1 hD1 hS1 => ?_)
        have hv : vp_nar .boolean x = x := by
          rcases hc.2.2.2 with h9 | rfl | rfl
          · exact absurd h9 (by decide)
          · decide
          · decide
        rw [hv] at hP1 hD1
        have ew := sm_w_mem (cA := cA) (ad := ad) (sh := h.1) (M := h.2.1) (M' := sm_up h.2.1 q i.toNatClampNeg x) (J := h.2.2.1) (J' := h.2.2.1) (r := h.2.2.2) (r' := h.2.2.2) hz sm_up_ne (fun _ _ => rfl)
        simp only [sm_e, sm_up_eq] at ew
        exact k ad H1 locs1 ls e1 (by show va_P D cl (sm_w cA ad (h.1, sm_up h.2.1 q i.toNatClampNeg x, h.2.2.1, h.2.2.2)) H1; rw [ew]; exact hP1) (by show va_D A (sm_w cA ad (h.1, sm_up h.2.1 q i.toNatClampNeg x, h.2.2.1, h.2.2.2)); rw [ew]; exact hD1) hS1 hl
      · cases hi
    · cases hi
  · cases hi
theorem sm_s_laload (hx : p.tables.exec = Jvm.exec) (hb : c.code = cc) (hK : va_K D cl tys s) (ht : tys[2]? = some (cA 2, .long)) (hd : decode cc pc = .ok (.laload, 1)) (hi : sm_lald (pc + 1) L S h = some r) (k : sm_W p l e R s m args below meth c Q D cl A H0 nL cA b ad0 n0 C1 S1 r.1 r.2.1 r.2.2.1 r.2.2.2) : sm_W p l e R s m args below meth c Q D cl A H0 nL cA b ad0 n0 C1 S1 pc L S h := by
  unfold sm_lald at hi
  split at hi
  · split at hi
    · next hz =>
      split at hi
      · next hc =>
        cases hi
        intro ad H locs ls e1 hP hD hS hl
        exact va_lald hx hb hK hP _ 2 (sm_w_get hz) ht (sm_inI hc.1 hc.2) hd (k ad H locs ls e1 hP hD hS hl)
      · cases hi
    · cases hi
  · cases hi
theorem sm_s_lastore (hx : p.tables.exec = Jvm.exec) (hb : c.code = cc) (hK : va_K D cl tys s) (ht : tys[2]? = some (cA 2, .long)) (hd : decode cc pc = .ok (.lastore, 1)) (hi : sm_last (pc + 1) L S h = some r) (k : sm_W p l e R s m args below meth c Q D cl A H0 nL cA b ad0 n0 C1 S1 r.1 r.2.1 r.2.2.1 r.2.2.2) : sm_W p l e R s m args below meth c Q D cl A H0 nL cA b ad0 n0 C1 S1 pc L S h := by
  unfold sm_last at hi
  split at hi
  · next x i q rest =>
    split at hi
    · next n hz =>
      split at hi
      · next hc =>
        cases hi
        intro ad H locs ls e1 hP hD hS hl
        refine va_last hx hb hK hP hD hS q 2 (sm_w_get hz) ht (sm_inI hc.1 hc.2) hd (fun H1 locs1 hP1 hD1 hS1 => ?_)
        have ew := sm_w_mem (cA := cA) (ad := ad) (sh := h.1) (M := h.2.1) (M' := h.2.1) (J := h.2.2.1) (J' := sm_uj h.2.2.1 q i.toNatClampNeg x) (r := h.2.2.2) (r' := h.2.2.2) hz (fun _ _ => rfl) sm_uj_ne
        simp only [sm_e, sm_uj_eq] at ew
        exact k ad H1 locs1 ls e1 (by show va_P D cl (sm_w cA ad (h.1, h.2.1, sm_uj h.2.2.1 q i.toNatClampNeg x, h.2.2.2)) H1; rw [ew]; exact hP1) (by show va_D A (sm_w cA ad (h.1, h.2.1, sm_uj h.2.2.1 q i.toNatClampNeg x, h.2.2.2)); rw [ew]; exact hD1) hS1 hl
      · cases hi
    · cases hi
  · cases hi
theorem sm_s_alen (hx : p.tables.exec = Jvm.exec) (hb : c.code = cc) (hK : va_K D cl tys s) (ht : ∀ t, t < 6 → ∃ ty, tys[t]? = some (cA t, ty)) {X : Nat × (Nat → Int32)} (hX : va_X b X.1 X.2 s H0) (hbl : b < H0.size) (hbA : ¬ A b) (hd : decode cc pc = .ok (.arraylength, 1)) (hi : sm_alen (pc + 1) L S h X = some r) (k : sm_W p l e R s m args below meth c Q D cl A H0 nL cA b ad0 n0 C1 S1 r.1 r.2.1 r.2.2.1 r.2.2.2) : sm_W p l e R s m args below meth c Q D cl A H0 nL cA b ad0 n0 C1 S1 pc L S h := by
  unfold sm_alen at hi
  split at hi
  · split at hi
    · next t n hz =>
      split at hi
      · next hc =>
        cases hi
        intro ad H locs ls e1 hP hD hS hl
        obtain ⟨ty, h9⟩ := ht t hc
        exact va_alen hx hb hK hP _ t (sm_w_get hz) h9 rfl hd (k ad H locs ls e1 hP hD hS hl)
      · cases hi
    · next n hz =>
      cases hi
      intro ad H locs ls e1 hP hD hS hl
      obtain ⟨ty, h9⟩ := ht 2 (by decide)
      exact va_alen hx hb hK hP _ 2 (sm_w_get hz) h9 rfl hd (k ad H locs ls e1 hP hD hS hl)
    · next t rs hz =>
      split at hi
      · next hc =>
        cases hi
        intro ad H locs ls e1 hP hD hS hl
        obtain ⟨ty, h9⟩ := ht t hc
        exact va_alen hx hb hK hP _ t (sm_w_get hz) h9 rfl hd (k ad H locs ls e1 hP hD hS hl)
      · cases hi
    · cases hi
  · cases hi
    intro ad H locs ls e1 hP hD hS hl
    exact va_slen hx hb hX hbl hbA hS hd (k ad H locs ls e1 hP hD hS hl)
  · cases hi
end SMS
