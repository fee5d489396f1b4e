/-! ===== any instruction that neither calls nor leaves ===== -/
def sm_tsw : Instr → Bool
  | .tableswitch _ _ _ _ => true
  | _ => false
/-- stores are to locals that there are -/
def sm_lok (n : Nat) : Instr → Bool
  | .istore i => decide (i < n)
  | .istore_n i => decide (i.val < n)
  | .astore i => decide (i < n)
  | .astore_n i => decide (i.val < n)
  | .iinc i _ => decide (i < n)
  | _ => true
def sm_isput : Instr → Option Nat
  | .putfield k => some k
  | _ => none
/-- what the class files' tables T say is so; by is a method's code, nm its name, tyN the types of arrays, AO the classes of arrays of references -/
def sm_Tab (T : sm_T) (ok : Nat → Nat → Bool) (cl : List vw_C) (WA NW : List Cond) (tyN : List FieldType) (AO : List String) (bc : Nat → ByteArray) (nm : Nat → MethodName) : Prop :=
  (∀ y idx ci j k, sm_fld T y idx = some (ci, j, k) → sm_Fo cl WA NW (nm y).cls idx ci j k) ∧
  (∀ y pc i idx ci j k, sm_ins T y pc = some i → sm_isput i = some idx → sm_fld T y idx = some (ci, j, k) → sm_Fp cl WA (nm y).cls idx ((nm y).name == "<init>") ci j) ∧
  (∀ y idx ci fs, sm_cls T y idx = some (ci, fs) → sm_No cl WA (nm y).cls idx ci fs) ∧
  (∀ y idx u, sm_arr T y idx = some u → ∃ C, tyN[u]? = some (.object C) ∧ Cond.classLink (nm y).cls idx C ∈ WA ∧ C ∈ AO) ∧
  (∀ y pc i, sm_ins T y pc = some i → ∃ len, decode (bc y) pc = .ok (i, len) ∧ (sm_tsw i = false → len = sm_len i) ∧ sm_lok (sm_nL T y).1 i = true) ∧
  (∀ t ci, ok t ci = true → ∃ q, cl[ci]? = some q ∧ tyN[t]? = some (.object q.1)) ∧
  (∃ t3 t4 t5, tyN = [.int, .boolean, .long, .object t3, .object t4, .object t5]) ∧
  Cond.arrayClass .int ∈ WA ∧ Cond.arrayClass .boolean ∈ WA ∧ Cond.arrayClass .long ∈ WA
def sm_tys (cA : Nat → ClassId) (tyN : List FieldType) : List (ClassId × FieldType) := tyN.mapIdx (fun t ty => (cA t, ty))
theorem sm_tys_get {cA : Nat → ClassId} {tyN : List FieldType} {t : Nat} {ty : FieldType} (h : tyN[t]? = some ty) : (sm_tys cA tyN)[t]? = some (cA t, ty) := by
  unfold sm_tys
  rw [List.getElem?_mapIdx, h]
  rfl
section SMX
variable {p : Program} {l : Launch} {e : Env} {R : Room} {s : State} {m : MethodId} {args : Array Value} {below : List Frame} {meth : Method} {c : Code} {Q : State → Prop} {D : va_G} {cl : List vw_C} {A : Nat → Prop} {H0 : Heap} {nL : Nat} {cA : Nat → ClassId} {b : Nat} {ad0 : Nat → Nat} {n0 C1 S1 : Nat} {pc : Nat} {L : sm_L} {S : List Value} {h : sm_H} {r : sm_P} {WA NW : List Cond} {T : sm_T} {ok : Nat → Nat → Bool} {tyN : List FieldType} {AO : List String} {bc : Nat → ByteArray} {nm : Nat → MethodName} {X : Nat × (Nat → Int32)} {y : Nat}
set_option maxHeartbeats 4000000 in
theorem sm_sound (TB : sm_Tab T ok cl WA NW tyN AO bc nm) (hx : p.tables.exec = Jvm.exec) (hb : c.code = bc y) (hnL : (sm_nL T y).1 = nL) (hown : s.vm.findClass (nm y).cls = some m.cls) (hmn : meth.name = (nm y).name) (hts : ∀ w ∈ WA, w.before args s = true) (hN : ∀ w ∈ NW, va_Nw w s) (hAO : ∀ C ∈ AO, va_AO C s) (hK : va_K D cl (sm_tys cA tyN) s) (hX : va_X b X.1 X.2 s H0) (hbl : b < H0.size) (hbA : ¬ A b) (hA : ∀ q, H0.size ≤ q → A q) (hn0 : n0 ≤ h.1.length) (hle : h.2.2.2.1 ≤ C1 ∧ h.2.2.2.2 ≤ S1) (hroom : C1 - r.2.2.2.2.2.2.1 ≤ R.cells ∧ S1 - r.2.2.2.2.2.2.2 ≤ R.slots)
    {i : Instr} (hins : sm_ins T y pc = some i) (hi : sm_i T X ok y i pc L S h = some r) (k : sm_W p l e R s m args below meth c Q D cl A H0 nL cA b ad0 n0 C1 S1 r.1 r.2.1 r.2.2.1 r.2.2.2) : sm_W p l e R s m args below meth c Q D cl A H0 nL cA b ad0 n0 C1 S1 pc L S h := by
  obtain ⟨tF, tP, tN, tQ, tI, tO, ⟨t3, t4, t5, rfl⟩, tw0, tw1, tw2⟩ := TB
  obtain ⟨len, hd, hlen, hlo⟩ := tI y pc i hins
  have e0 := sm_tys_get (cA := cA) (tyN := [.int, .boolean, .long, .object t3, .object t4, .object t5]) (t := 0) rfl
  have e1 := sm_tys_get (cA := cA) (tyN := [.int, .boolean, .long, .object t3, .object t4, .object t5]) (t := 1) rfl
  have e2 := sm_tys_get (cA := cA) (tyN := [.int, .boolean, .long, .object t3, .object t4, .object t5]) (t := 2) rfl
  have e6 : ∀ t, t < 6 → ∃ ty, (sm_tys cA [.int, .boolean, .long, .object t3, .object t4, .object t5])[t]? = some (cA t, ty) := by
    intro t ht
    have : ∃ ty, ([.int, .boolean, .long, .object t3, .object t4, .object t5] : List FieldType)[t]? = some ty := ⟨_, List.getElem?_eq_getElem (by simpa using ht)⟩
    obtain ⟨ty, h9⟩ := this
    exact ⟨ty, sm_tys_get h9⟩
  have e7 : ∀ t ty, 3 ≤ t → t < 6 → (sm_tys cA [.int, .boolean, .long, .object t3, .object t4, .object t5])[t]? = some (cA t, ty) → ∃ C, ty = .object C := by
    intro t ty h3 h6 h9
    rcases (by omega : t = 3 ∨ t = 4 ∨ t = 5) with rfl | rfl | rfl
    · cases h9; exact ⟨_, rfl⟩
    · cases h9; exact ⟨_, rfl⟩
    · cases h9; exact ⟨_, rfl⟩
  rw [hnL] at hlo
  cases i with
  | iconst n =>
    obtain rfl := hlen rfl
    exact sm_s_iconst hx hb hd hi k
  | bipush n =>
    obtain rfl := hlen rfl
    exact sm_s_bipush hx hb hd hi k
  | sipush n =>
    obtain rfl := hlen rfl
    exact sm_s_sipush hx hb hd hi k
  | lconst n =>
    obtain rfl := hlen rfl
    exact sm_s_lconst hx hb hd hi k
  | iload i =>
    obtain rfl := hlen rfl
    exact sm_s_iload hx hb hd hi k
  | iload_n i =>
    obtain rfl := hlen rfl
    exact sm_s_iload_n hx hb hd hi k
  | aload i =>
    obtain rfl := hlen rfl
    exact sm_s_aload hx hb hd hi k
  | aload_n i =>
    obtain rfl := hlen rfl
    exact sm_s_aload_n hx hb hd hi k
  | istore i =>
    obtain rfl := hlen rfl
    exact sm_s_istore hx hb (of_decide_eq_true hlo) hd hi k
  | istore_n i =>
    obtain rfl := hlen rfl
    exact sm_s_istore_n hx hb (of_decide_eq_true hlo) hd hi k
  | astore i =>
    obtain rfl := hlen rfl
    exact sm_s_astore hx hb (of_decide_eq_true hlo) hd hi k
  | astore_n i =>
    obtain rfl := hlen rfl
    exact sm_s_astore_n hx hb (of_decide_eq_true hlo) hd hi k
  | iinc i n =>
    obtain rfl := hlen rfl
    exact sm_s_iinc hx hb (of_decide_eq_true hlo) hd hi k
  | iadd =>
    obtain rfl := hlen rfl
    exact sm_s_iadd hx hb hd hi k
  | isub =>
    obtain rfl := hlen rfl
    exact sm_s_isub hx hb hd hi k
  | imul =>
    obtain rfl := hlen rfl
    exact sm_s_imul hx hb hd hi k
  | iand =>
    obtain rfl := hlen rfl
    exact sm_s_iand hx hb hd hi k
  | ior =>
    obtain rfl := hlen rfl
    exact sm_s_ior hx hb hd hi k
  | ixor =>
    obtain rfl := hlen rfl
    exact sm_s_ixor hx hb hd hi k
  | ishl =>
    obtain rfl := hlen rfl
    exact sm_s_ishl hx hb hd hi k
  | ishr =>
    obtain rfl := hlen rfl
    exact sm_s_ishr hx hb hd hi k
  | pop =>
    obtain rfl := hlen rfl
    exact sm_s_pop hx hb hd hi k
  | dup =>
    obtain rfl := hlen rfl
    exact sm_s_dup hx hb hd hi k
  | dup_x1 =>
    obtain rfl := hlen rfl
    exact sm_s_dup_x1 hx hb hd hi k
  | dup_x2 =>
    obtain rfl := hlen rfl
    exact sm_s_dup_x2 hx hb hd hi k
  | dup2 =>
    obtain rfl := hlen rfl
    exact sm_s_dup2 hx hb hd hi k
  | i2l =>
    obtain rfl := hlen rfl
    exact sm_s_i2l hx hb hd hi k
  | lcmp =>
    obtain rfl := hlen rfl
    exact sm_s_lcmp hx hb hd hi k
  | ifCond q off =>
    obtain rfl := hlen rfl
    exact sm_s_if hx hb hd hi k
  | if_icmp q off =>
    obtain rfl := hlen rfl
    exact sm_s_icmp hx hb hd hi k
  | goto off =>
    obtain rfl := hlen rfl
    exact sm_s_goto hx hb hd hi k
  | tableswitch d lo hi9 offs =>
    exact sm_s_table hx hb hd hi k
  | getfield j =>
    obtain rfl := hlen rfl
    exact sm_s_get hx hb hown hts hN hK (fun ci q bl h9 => tF y j ci q bl h9) hd hi k
  | putfield j =>
    obtain rfl := hlen rfl
    exact sm_s_put hx hb hown hts hN hK (ini := ((nm y).name == "<init>")) (fun h9 => by rw [hmn]; exact eq_of_beq h9) (fun ci q bl h9 => tF y j ci q bl h9) (fun ci q bl h9 => tP y pc _ j ci q bl hins rfl h9) hd hi k
  | iaload =>
    obtain rfl := hlen rfl
    exact sm_s_iaload hx hb hK e0 hX hbl hbA hd hi k
  | baload =>
    obtain rfl := hlen rfl
    exact sm_s_baload hx hb hK e1 hX hbl hbA hd hi k
  | iastore =>
    obtain rfl := hlen rfl
    exact sm_s_iastore hx hb hK e0 hd hi k
  | bastore =>
    obtain rfl := hlen rfl
    exact sm_s_bastore hx hb hK e1 hd hi k
  | laload =>
    obtain rfl := hlen rfl
    exact sm_s_laload hx hb hK e2 hd hi k
  | lastore =>
    obtain rfl := hlen rfl
    exact sm_s_lastore hx hb hK e2 hd hi k
  | aaload =>
    obtain rfl := hlen rfl
    exact sm_s_aaload hx hb hK e6 e7 hd hi k
  | aastore =>
    obtain rfl := hlen rfl
    exact sm_s_aastore hx hb hK (fun t ci h9 => by obtain ⟨q, h1, h2⟩ := tO t ci h9; exact ⟨q, h1, sm_tys_get h2⟩) hd hi k
  | arraylength =>
    obtain rfl := hlen rfl
    exact sm_s_alen hx hb hK e6 hX hbl hbA hd hi k
  | newarray t =>
    obtain rfl := hlen rfl
    exact sm_s_newarray hx hb hK hA hn0 hle hroom e0 e1 e2 (hts _ tw0) (hts _ tw1) (hts _ tw2) hd hi k
  | anewarray j =>
    obtain rfl := hlen rfl
    exact sm_s_anewarray hx hb hK hA hn0 hle hroom hown (fun u h9 => by obtain ⟨C, h1, h2, h3⟩ := tQ y j u h9; exact ⟨C, sm_tys_get h1, hts _ h2, hAO C h3⟩) hd hi k
  | new j =>
    obtain rfl := hlen rfl
    exact sm_s_new hx hb hK hA hn0 hle hroom hown hts (fun ci fs h9 => tN y j ci fs h9) hd hi k
  | _ => cases hi
end SMX
