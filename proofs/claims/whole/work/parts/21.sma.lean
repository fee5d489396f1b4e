/-! ===== the main theorem ===== -/
def sm_cw (T : sm_T) (bc : Nat → ByteArray) (nm : Nat → MethodName) (eh : Nat → List (Nat × Nat × Nat × Nat)) (z : Nat) : Cond := match eh z with
  | [] => Cond.code (nm z) (bc z) (sm_nL T z).1 (sm_rt T z)
  | q :: r => Cond.codeWith (nm z) (bc z) (sm_nL T z).1 (sm_rt T z) (q :: r)
theorem sm_rcv4 {ci : Nat} {vs : List Value} {h : sm_H} (w : sm_rcv 4 ci vs h = true) : ∃ q rest fs, vs = .ref q :: rest ∧ h.1[q]? = some (.inl (ci, fs)) := by
  cases vs with
  | nil => cases w
  | cons v rest =>
    cases v with
    | ref q =>
      have w : (match h.1[q]? with
        | some (.inl (cj, _)) => decide (ci = cj)
        | _ => false) = true := w
      split at w
      · next cj fs hz =>
        have hcj := of_decide_eq_true w
        subst hcj
        exact ⟨q, rest, fs, rfl, hz⟩
      · cases w
    | _ => cases w
theorem sm_rcv5 {ci : Nat} {vs : List Value} {h : sm_H} (w : sm_rcv 5 ci vs h = true) : ∃ q rest, vs = .ref q :: rest := by
  cases vs with
  | nil => cases w
  | cons v rest =>
    cases v with
    | ref q => exact ⟨q, rest, rfl⟩
    | _ => cases w
section SMA
variable {l : Launch} {D : va_G} {cl : List vw_C} {cA : Nat → ClassId} {b : Nat} {WA NW : List Cond} {T : sm_T} {ok : Nat → Nat → Bool} {tyN : List FieldType} {AO : List String} {bc : Nat → ByteArray} {nm : Nat → MethodName} {X : Nat × (Nat → Int32)} {fx : Nat → Prop} {KT : State → Prop} {XC : Nat → String} {eh : Nat → List (Nat × Nat × Nat × Nat)} {n : Nat}
theorem sm_dec_of (TB : sm_Tab T ok cl WA NW tyN AO bc nm) {y pc : Nat} {i : Instr} (h : sm_ins T y pc = some i) (ht : sm_tsw i = false) : decode (bc y) pc = .ok (i, sm_len i) := by
  obtain ⟨len, h1, h2, -⟩ := TB.2.2.2.2.1 y pc i h
  rw [h2 ht] at h1
  exact h1
/-- the opcode of a call, by its kind -/
theorem sm_inv_op {y : Nat} {i : Instr} {k z w : Nat} (h : sm_inv T y i = some (k, z, w)) : ∃ idx, sm_cal T y idx = some (k, z, w) ∧ ((i = .invokestatic idx ∧ (k = 1 ∨ k = 2 ∨ k = 3)) ∨ (i = .invokevirtual idx ∧ k = 4) ∨ (i = .invokespecial idx ∧ (k = 0 ∨ k = 5))) := by
  unfold sm_inv at h
  split at h
  · next j =>
    split at h
    · next k' z' w' hc =>
      split at h
      · next hk => cases h; exact ⟨j, hc, Or.inl ⟨rfl, hk⟩⟩
      · cases h
    · cases h
  · next j =>
    split at h
    · next k' z' w' hc =>
      split at h
      · next hk => cases h; exact ⟨j, hc, Or.inr (Or.inl ⟨rfl, hk⟩)⟩
      · cases h
    · cases h
  · next j =>
    split at h
    · next k' z' w' hc =>
      split at h
      · next hk => cases h; exact ⟨j, hc, Or.inr (Or.inr ⟨rfl, hk⟩)⟩
      · cases h
    · cases h
  · cases h
/-- behind a callee's answer the caller goes on -/
theorem sm_on {p : Program} {e : Env} {R : Room} {s : State} {m : MethodId} {args : Array Value} {below : List Frame} {meth : Method} {c : Code} {A : Nat → Prop} {ad0 : Nat → Nat} {n0 C1 S1 pc w nL : Nat} {L : sm_L} {S : List Value} {h h1 : sm_H} {Q : State → Prop} {v : Option Value} {ad : Nat → Nat} {H : Heap} {locs : List Loc} {ls : Array Slot} {av : Array Value} (hA : ∀ q, s.heap.size ≤ q → A q) (hn0 : n0 ≤ h.1.length) (hle : h.2.2.2.1 ≤ C1 ∧ h.2.2.2.2 ≤ S1) (hge : h1.2.2.2.1 ≤ h.2.2.2.1 ∧ h1.2.2.2.2 ≤ h.2.2.2.2 ∧ h.1.length ≤ h1.1.length) (hok : sm_ok2 L (S.drop w) h h1 = true)
    (e1 : ∀ k, ¬ (n0 ≤ k ∧ k < h.1.length) → ad k = ad0 k) (hD : va_D A (sm_w cA ad h)) (hS : va_S A s.heap H locs) (hl : sm_l b ad ls nL L)
    (hr : va_Run p l e R s m args below meth c H locs (C1 - h.2.2.2.1) (S1 - h.2.2.2.2) (h.2.2.2.1 - h1.2.2.2.1) (h.2.2.2.2 - h1.2.2.2.2) (F0 m pc ls (S.map (sm_v b ad))) ((S.drop w).map (sm_v b ad)) (sm_Qc D cl cA b (va_A (sm_w cA ad h) H.size) ad h.1.length v h1 av) (va_A (sm_w cA ad h) H.size))
    (kk : sm_W p l e R s m args below meth c Q D cl A s.heap nL cA b ad0 n0 C1 S1 (pc + 3) L (v.toList ++ S.drop w) h1) :
    W p l e R s m args below meth c H locs (C1 - h.2.2.2.1) (S1 - h.2.2.2.2) Q (F0 m pc ls (S.map (sm_v b ad))) := by
  have hAA : ∀ q, va_A (sm_w cA ad h) H.size q → A q := by
    intro q hq
    rcases hq with ⟨k, e, hq⟩ | hq
    · exact hD.2 k (q, e) hq
    · exact hA q (Nat.le_trans hS.1 hq)
  refine sm_back hr (fun v0 st₀ t Ls h0 hW hLs hq => ?_)
  obtain ⟨⟨ad', ea, eo, hP1, hD1⟩, hF1, hF2⟩ := hq
  cases eo
  rw [h0] at hF1 hF2
  have ga : ∀ k, k < h.1.length → ad' k = ad k := fun k hk => ea k (by omega)
  have gl : sm_l b ad' ls nL L ∧ (S.drop w).map (sm_v b ad') = (S.drop w).map (sm_v b ad) := by
    unfold sm_ok2 at hok
    rw [Bool.or_eq_true] at hok
    rcases hok with hok | hok
    · have hz : h1.1.length = h.1.length := of_decide_eq_true hok
      have : ad' = ad := funext fun k => ea k (by omega)
      subst this
      exact ⟨hl, rfl⟩
    · unfold sm_wfL at hok
      rw [Bool.and_eq_true] at hok
      exact ⟨sm_l_ext hl hok.1 ga, sm_S_ext hok.2 ga⟩
  have kk := kk ad' t.heap (locs ++ Ls) ls (fun k hk => by
    by_cases hk2 : k < n0
    · rw [ea k (by omega), e1 k (by omega)]
    · rw [ea k (by omega), e1 k (by omega)]) hP1 (hD1.weaken fun _ q _ hq => hAA q.1 hq) ⟨Nat.le_trans hS.1 hF1, fun q hq1 hq2 => by
      rw [hF2 q (Nat.lt_of_lt_of_le hq1 hS.1) (fun z => hq2 (hAA q z))]
      exact hS.2.1 q hq1 hq2, fun q hq => by
      rcases List.mem_append.mp hq with hq | hq
      · exact hS.2.2 q hq
      · exact hAA _ (hLs q hq)⟩ gl.1
  have es : (v.toList ++ S.drop w).map (sm_v b ad') = (v.map (sm_v b ad')).toList ++ (S.drop w).map (sm_v b ad) := by
    rw [List.map_append, gl.2]
    cases v <;> rfl
  rw [es] at kk
  have g1 : C1 - h1.2.2.2.1 = C1 - h.2.2.2.1 + (h.2.2.2.1 - h1.2.2.2.1) := by omega
  have g2 : S1 - h1.2.2.2.2 = S1 - h.2.2.2.2 + (h.2.2.2.2 - h1.2.2.2.2) := by omega
  rw [g1, g2] at kk
  exact kk
end SMA
