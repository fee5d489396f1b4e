/-! ===== the JDK's own ===== -/
theorem sm_vcat {b : Nat} {ad : Nat → Nat} (v : Value) : (sm_v b ad v).category = v.category := by cases v <;> rfl
theorem sm_sum_map {b : Nat} {ad : Nat → Nat} (S : List Value) : ((S.map (sm_v b ad)).map fun v => v.category).sum = sm_sum S := by
  unfold sm_sum
  rw [List.map_map]
  congr 1
  exact List.map_congr_left fun v _ => sm_vcat v
section SML
variable {p : Program} {l : Launch} {e : Env} {R : Room} {s : State} {m : MethodId} {args : Array Value} {below : List Frame} {meth : Method} {c : Code} {Q : State → Prop} {cc : ByteArray} {D : va_G} {cl : List vw_C} {tys : List (ClassId × FieldType)} {A : Nat → Prop} {H0 : Heap} {nL : Nat} {cA : Nat → ClassId} {b : Nat} {ad0 : Nat → Nat} {n0 C1 S1 : Nat} {pc : Nat} {L : sm_L} {S : List Value} {h : sm_H} {r : sm_P} {WA NW : List Cond} {idx k z w y : Nat} {nm : Nat → MethodName} {cw : Nat → Cond} {T : sm_T}
theorem sm_nneg {x : Int32} (h : 0 ≤ x.toInt) : ¬ x < 0 := by
  rw [Int32.lt_iff_toInt_lt]
  have : (0 : Int32).toInt = 0 := by decide
  omega
set_option maxHeartbeats 1000000 in
theorem sm_s_lib (hx : p.tables.exec = Jvm.exec) (hb : c.code = cc) (hml : c.maxLocals = nL) (hown : s.vm.findClass (nm y).cls = some m.cls) (hts : ∀ w ∈ WA, w.before args s = true) (hK : va_K D cl tys s) (t0 : tys[0]? = some (cA 0, .int)) (hg : sm_Go cl WA NW nm cw T y idx k z w) (hfr : 1 ≤ R.frames) (hlo : 100 ≤ R.locals) (hce : C1 - h.2.2.2.1 ≤ R.cells ∧ S1 - h.2.2.2.2 ≤ R.slots)
    (hd : (k = 0 → decode cc pc = .ok (.invokespecial idx, 3)) ∧ (k = 1 ∨ k = 2 → decode cc pc = .ok (.invokestatic idx, 3))) (hi : sm_lib k (pc + 3) L S h = some r) (kk : sm_W p l e R s m args below meth c Q D cl A H0 nL cA b ad0 n0 C1 S1 r.1 r.2.1 r.2.2.1 r.2.2.2) : sm_W p l e R s m args below meth c Q D cl A H0 nL cA b ad0 n0 C1 S1 pc L S h := by
  obtain ⟨g0, g1, g2, -⟩ := hg
  unfold sm_lib at hi
  split at hi
  · next q rest =>
    split at hi
    · next hs =>
      cases hi
      obtain ⟨w1, w2, w3⟩ := g0 rfl
      intro ad H locs ls e1 hP hD hS hl
      exact W.objInit hx hb hown (hts _ w1) (hts _ w2) (hts _ w3) rfl (by rw [hml]; exact hl.2.1) rfl (hd.1 rfl) hfr (by rw [sm_sum_map]; show 2 * 0 + _ + 12 ≤ _; omega) (kk ad H locs ls e1 hP hD hS hl)
    · cases hi
  · next x y0 rest =>
    split at hi
    · next hs =>
      cases hi
      obtain ⟨w1, w2, w3, w4⟩ := g1 rfl
      intro ad H locs ls e1 hP hD hS hl
      exact va_mmax hx hb (hml.trans hl.2.1.symm) hown (hts _ w1) (hts _ w2) (hts _ w3) (hts _ w4) hfr (by rw [sm_sum_map]; omega) hce.1 hce.2 (hd.2 (Or.inl rfl)) (kk ad H locs ls e1 hP hD hS hl)
    · cases hi
  · next n dp q1 sp q0 rest =>
    split at hi
    · next n0' n1' hz0 hz1 =>
      split at hi
      · next hc =>
        obtain ⟨hs, c1, c2, c3, c4, c5⟩ := hc
        cases hi
        obtain ⟨w1, w2, w3, w4⟩ := g2 rfl
        intro ad H locs ls e1 hP hD hS hl
        have k1 : n.toNatClampNeg = n.toInt.toNat := rfl
        have k2 : sp.toNatClampNeg = sp.toInt.toNat := rfl
        have k3 : dp.toNatClampNeg = dp.toInt.toNat := rfl
        have k9 : nativeFrameWords "java/lang/System" "arraycopy" 5 ≤ 60 := by decide +kernel
        refine va_copyi hx hb (hml.trans hl.2.1.symm) hown (hts _ w1) (hts _ w2) (hts _ w3) (hts _ w4) hK hP hD hS q0 q1 0 0 (sm_w_get hz0) (sm_w_get hz1) t0 t0 rfl (sm_nneg c2) (sm_nneg c3) (sm_nneg c1) (by omega) (by omega) (fun _ _ => rfl) hfr (by rw [sm_sum_map]; omega) (hd.2 (Or.inr rfl)) (fun H1 locs1 hP1 hD1 hS1 => ?_)
        have ew := sm_w_mem (cA := cA) (ad := ad) (sh := h.1) (M := h.2.1) (M' := sm_uf h.2.1 q1 (va_cpy (h.2.1 q0) (h.2.1 q1) sp.toNatClampNeg dp.toNatClampNeg n.toNatClampNeg)) (J := h.2.2.1) (J' := h.2.2.1) (r := h.2.2.2) (r' := h.2.2.2) hz1 sm_uf_ne (fun _ _ => rfl)
        simp only [sm_e, sm_uf_eq] at ew
        exact kk ad H1 locs1 ls e1 (by show va_P D cl (sm_w cA ad (h.1, sm_uf h.2.1 q1 (va_cpy (h.2.1 q0) (h.2.1 q1) sp.toNatClampNeg dp.toNatClampNeg n.toNatClampNeg), h.2.2.1, h.2.2.2)) H1; rw [ew]; exact hP1) (by show va_D A (sm_w cA ad (h.1, sm_uf h.2.1 q1 (va_cpy (h.2.1 q0) (h.2.1 q1) sp.toNatClampNeg dp.toNatClampNeg n.toNatClampNeg), h.2.2.1, h.2.2.2)); rw [ew]; exact hD1) hS1 hl
      · cases hi
    · cases hi
  · cases hi
end SML
