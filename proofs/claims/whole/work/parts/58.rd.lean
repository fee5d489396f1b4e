/-! ===== calls with their values on top ===== -/
section GW
variable {X : Nat × (Nat → Int32)} {d lw y pc p : Nat} {f : Nat → Option Instr} {L : sm_L} {M : sm_M} {J : sm_J} {rc rs : Nat} {Q : sm_O → sm_H → Prop}
theorem go_cw1 {i : Instr} {k z n rk ci D B : Nat} {a1 : Value} {S' : List Value} {R : Option Value → sm_M → Prop} (hf : sm_ins tb_T y = f) (hins : f pc = some i) (hp : pc + 3 = p) (hv : sm_inv tb_T y i = some (k, z, 1)) (hk : k = 3 ∨ k = 4) (hn : sm_nL tb_T z = (n, rk, ci)) (hr : sm_isret i = false) (hs : Nat.ble (sm_sum S') 8 = true) (hrc : sm_rcv k ci [a1] (wSH, M, J, rc, rs) = true) (hc1 : [a1].all sm_c1 = true) (hwn : Nat.ble 1 n = true) (ht : tb_thr z [a1] (wSH, M, J, rc, rs) = none) (hD : D < d) (hB : B + (19 + n) ≤ lw) (hc : cr z D B [a1] M R) (kv : ∀ v M1, R v M1 → sm_wp tb_T X tb_ok d lw y p L (v.toList ++ S') (wSH, M1, J, rc, rs) Q) : sm_wp tb_T X tb_ok d lw y pc L (a1 :: S') (wSH, M, J, rc, rs) Q :=
  go_call (As := [a1]) (S' := S') hf hins hp hv hk hn hr rfl rfl (Nat.ble_eq_true_of_le (by simp)) hs hrc (by rw [← hc1]; simp [List.all, Bool.and_comm, Bool.and_left_comm, Bool.and_assoc]) hwn ht hD hB hc kv
theorem go_cw2 {i : Instr} {k z n rk ci D B : Nat} {a1 a2 : Value} {S' : List Value} {R : Option Value → sm_M → Prop} (hf : sm_ins tb_T y = f) (hins : f pc = some i) (hp : pc + 3 = p) (hv : sm_inv tb_T y i = some (k, z, 2)) (hk : k = 3 ∨ k = 4) (hn : sm_nL tb_T z = (n, rk, ci)) (hr : sm_isret i = false) (hs : Nat.ble (sm_sum S') 8 = true) (hrc : sm_rcv k ci [a1, a2] (wSH, M, J, rc, rs) = true) (hc1 : [a1, a2].all sm_c1 = true) (hwn : Nat.ble 2 n = true) (ht : tb_thr z [a1, a2] (wSH, M, J, rc, rs) = none) (hD : D < d) (hB : B + (19 + n) ≤ lw) (hc : cr z D B [a1, a2] M R) (kv : ∀ v M1, R v M1 → sm_wp tb_T X tb_ok d lw y p L (v.toList ++ S') (wSH, M1, J, rc, rs) Q) : sm_wp tb_T X tb_ok d lw y pc L (a2 :: a1 :: S') (wSH, M, J, rc, rs) Q :=
  go_call (As := [a1, a2]) (S' := S') hf hins hp hv hk hn hr rfl rfl (Nat.ble_eq_true_of_le (by simp)) hs hrc (by rw [← hc1]; simp [List.all, Bool.and_comm, Bool.and_left_comm, Bool.and_assoc]) hwn ht hD hB hc kv
theorem go_cw3 {i : Instr} {k z n rk ci D B : Nat} {a1 a2 a3 : Value} {S' : List Value} {R : Option Value → sm_M → Prop} (hf : sm_ins tb_T y = f) (hins : f pc = some i) (hp : pc + 3 = p) (hv : sm_inv tb_T y i = some (k, z, 3)) (hk : k = 3 ∨ k = 4) (hn : sm_nL tb_T z = (n, rk, ci)) (hr : sm_isret i = false) (hs : Nat.ble (sm_sum S') 8 = true) (hrc : sm_rcv k ci [a1, a2, a3] (wSH, M, J, rc, rs) = true) (hc1 : [a1, a2, a3].all sm_c1 = true) (hwn : Nat.ble 3 n = true) (ht : tb_thr z [a1, a2, a3] (wSH, M, J, rc, rs) = none) (hD : D < d) (hB : B + (19 + n) ≤ lw) (hc : cr z D B [a1, a2, a3] M R) (kv : ∀ v M1, R v M1 → sm_wp tb_T X tb_ok d lw y p L (v.toList ++ S') (wSH, M1, J, rc, rs) Q) : sm_wp tb_T X tb_ok d lw y pc L (a3 :: a2 :: a1 :: S') (wSH, M, J, rc, rs) Q :=
  go_call (As := [a1, a2, a3]) (S' := S') hf hins hp hv hk hn hr rfl rfl (Nat.ble_eq_true_of_le (by simp)) hs hrc (by rw [← hc1]; simp [List.all, Bool.and_comm, Bool.and_left_comm, Bool.and_assoc]) hwn ht hD hB hc kv
theorem go_cw4 {i : Instr} {k z n rk ci D B : Nat} {a1 a2 a3 a4 : Value} {S' : List Value} {R : Option Value → sm_M → Prop} (hf : sm_ins tb_T y = f) (hins : f pc = some i) (hp : pc + 3 = p) (hv : sm_inv tb_T y i = some (k, z, 4)) (hk : k = 3 ∨ k = 4) (hn : sm_nL tb_T z = (n, rk, ci)) (hr : sm_isret i = false) (hs : Nat.ble (sm_sum S') 8 = true) (hrc : sm_rcv k ci [a1, a2, a3, a4] (wSH, M, J, rc, rs) = true) (hc1 : [a1, a2, a3, a4].all sm_c1 = true) (hwn : Nat.ble 4 n = true) (ht : tb_thr z [a1, a2, a3, a4] (wSH, M, J, rc, rs) = none) (hD : D < d) (hB : B + (19 + n) ≤ lw) (hc : cr z D B [a1, a2, a3, a4] M R) (kv : ∀ v M1, R v M1 → sm_wp tb_T X tb_ok d lw y p L (v.toList ++ S') (wSH, M1, J, rc, rs) Q) : sm_wp tb_T X tb_ok d lw y pc L (a4 :: a3 :: a2 :: a1 :: S') (wSH, M, J, rc, rs) Q :=
  go_call (As := [a1, a2, a3, a4]) (S' := S') hf hins hp hv hk hn hr rfl rfl (Nat.ble_eq_true_of_le (by simp)) hs hrc (by rw [← hc1]; simp [List.all, Bool.and_comm, Bool.and_left_comm, Bool.and_assoc]) hwn ht hD hB hc kv
theorem go_cw5 {i : Instr} {k z n rk ci D B : Nat} {a1 a2 a3 a4 a5 : Value} {S' : List Value} {R : Option Value → sm_M → Prop} (hf : sm_ins tb_T y = f) (hins : f pc = some i) (hp : pc + 3 = p) (hv : sm_inv tb_T y i = some (k, z, 5)) (hk : k = 3 ∨ k = 4) (hn : sm_nL tb_T z = (n, rk, ci)) (hr : sm_isret i = false) (hs : Nat.ble (sm_sum S') 8 = true) (hrc : sm_rcv k ci [a1, a2, a3, a4, a5] (wSH, M, J, rc, rs) = true) (hc1 : [a1, a2, a3, a4, a5].all sm_c1 = true) (hwn : Nat.ble 5 n = true) (ht : tb_thr z [a1, a2, a3, a4, a5] (wSH, M, J, rc, rs) = none) (hD : D < d) (hB : B + (19 + n) ≤ lw) (hc : cr z D B [a1, a2, a3, a4, a5] M R) (kv : ∀ v M1, R v M1 → sm_wp tb_T X tb_ok d lw y p L (v.toList ++ S') (wSH, M1, J, rc, rs) Q) : sm_wp tb_T X tb_ok d lw y pc L (a5 :: a4 :: a3 :: a2 :: a1 :: S') (wSH, M, J, rc, rs) Q :=
  go_call (As := [a1, a2, a3, a4, a5]) (S' := S') hf hins hp hv hk hn hr rfl rfl (Nat.ble_eq_true_of_le (by simp)) hs hrc (by rw [← hc1]; simp [List.all, Bool.and_comm, Bool.and_left_comm, Bool.and_assoc]) hwn ht hD hB hc kv
theorem go_cw6 {i : Instr} {k z n rk ci D B : Nat} {a1 a2 a3 a4 a5 a6 : Value} {S' : List Value} {R : Option Value → sm_M → Prop} (hf : sm_ins tb_T y = f) (hins : f pc = some i) (hp : pc + 3 = p) (hv : sm_inv tb_T y i = some (k, z, 6)) (hk : k = 3 ∨ k = 4) (hn : sm_nL tb_T z = (n, rk, ci)) (hr : sm_isret i = false) (hs : Nat.ble (sm_sum S') 8 = true) (hrc : sm_rcv k ci [a1, a2, a3, a4, a5, a6] (wSH, M, J, rc, rs) = true) (hc1 : [a1, a2, a3, a4, a5, a6].all sm_c1 = true) (hwn : Nat.ble 6 n = true) (ht : tb_thr z [a1, a2, a3, a4, a5, a6] (wSH, M, J, rc, rs) = none) (hD : D < d) (hB : B + (19 + n) ≤ lw) (hc : cr z D B [a1, a2, a3, a4, a5, a6] M R) (kv : ∀ v M1, R v M1 → sm_wp tb_T X tb_ok d lw y p L (v.toList ++ S') (wSH, M1, J, rc, rs) Q) : sm_wp tb_T X tb_ok d lw y pc L (a6 :: a5 :: a4 :: a3 :: a2 :: a1 :: S') (wSH, M, J, rc, rs) Q :=
  go_call (As := [a1, a2, a3, a4, a5, a6]) (S' := S') hf hins hp hv hk hn hr rfl rfl (Nat.ble_eq_true_of_le (by simp)) hs hrc (by rw [← hc1]; simp [List.all, Bool.and_comm, Bool.and_left_comm, Bool.and_assoc]) hwn ht hD hB hc kv
end GW
/-! ===== reading seals: what is read, and the class ===== -/
def num (K A : Nat → Int32) (N : Nat) (t : Int32) : Int32 := valF K A N t (nI 1)
def atm (K A : Nat → Int32) (N : Nat) (t : Int32) : Int32 := valF K A N t (nI 0)
def hbC (K A B : Nat → Int32) (N : Nat) (t : Int32) : Prop := rdAt K N t = nI 3 ∧ rdAt K N (rdAt A N t) = nI 2 ∧ atm K A N (rdAt B N t) = nI 9 ∧ atm K A N (rdAt B N (rdAt A N t)) = nI 8
noncomputable def hbF (K A B : Nat → Int32) (N : Nat) (t : Int32) : Int32 := @ite _ (hbC K A B N t) (Classical.propDecidable _) (atm K A N (rdAt A N (rdAt A N t))) (-1)
def entR (K A B : Nat → Int32) (N : Nat) (t : Int32) (w : Nat) : Prop := ∃ i k c x, w = ((i * 4 + k) * 32 + c) * 64 + x ∧ i < 4 ∧ k < 3 ∧ c < 31 ∧ x < 64 ∧ num K A N (partF K A B N t 0) = nI i ∧ num K A N (partF K A B N t 1) = nI k ∧ num K A N (partF K A B N t 2) = nI c ∧ rdAt K N (tailF K B N 3 t) = nI 3 ∧ atm K A N (rdAt A N (tailF K B N 3 t)) = nI (10 + i) ∧ atm K A N (rdAt B N (tailF K B N 3 t)) = nI (100 + x)
def rdL (K A B : Nat → Int32) (N : Nat) (g : Nat → Int32) : Nat → Int32 → List Nat → List Nat → Prop
  | 0, t, a, l => num K A N t = nI 0 ∧ l = a
  | n + 1, t, a, l => (num K A N t = nI 0 ∧ l = a) ∨ (¬ num K A N t = nI 0 ∧ ∃ w, entR K A B N (partF K A B N t 0) w ∧ mf g a w ∧ rdL K A B N g n (tailF K B N 1 t) (a ++ [w]) l)
theorem entR_fun {K A B : Nat → Int32} {N : Nat} {t : Int32} {w w' : Nat} (h : entR K A B N t w) (h' : entR K A B N t w') : w = w' := by
  obtain ⟨i, k, c, x, e, a1, a2, a3, a4, b1, b2, b3, b4, b5, b6⟩ := h
  obtain ⟨i', k', c', x', e', a1', a2', a3', a4', b1', b2', b3', b4', b5', b6'⟩ := h'
  have e1 := (nI_eq (by omega) (by omega)).mp (b1.symm.trans b1')
  have e2 := (nI_eq (by omega) (by omega)).mp (b2.symm.trans b2')
  have e3 := (nI_eq (by omega) (by omega)).mp (b3.symm.trans b3')
  have e4 := (nI_eq (by omega) (by omega)).mp (b6.symm.trans b6')
  omega
theorem entR_lt {K A B : Nat → Int32} {N : Nat} {t : Int32} {w : Nat} (h : entR K A B N t w) : w < 32768 ∧ w / 2048 % 4 < 3 ∧ w / 64 % 32 < 31 := by
  obtain ⟨i, k, c, x, e, a1, a2, a3, a4, -⟩ := h
  omega
theorem entR_m1 {K A B : Nat → Int32} {N w : Nat} : ¬ entR K A B N (-1) w := by
  rintro ⟨i, k, c, x, e, a1, a2, a3, a4, b1, -⟩
  have e1 : rdAt K N (-1) = -1 := rdAt_f (Or.inl (by decide))
  have e2 : partF K A B N (-1) 0 = -1 := by
    unfold partF valF tailF
    rw [e1]
    rfl
  rw [e2] at b1
  unfold num valF at b1
  rw [e1] at b1
  have b1 : (-1 : Int32) = nI i := b1
  exact nI_m1 (by omega) b1.symm
theorem below_iff {v : Int32} {b : Nat} (hb : b < 2 ^ 31) : (¬ v < 0 ∧ v < nI b) ↔ ∃ n, n < b ∧ v = nI n := by
  constructor
  · rintro ⟨h1, h2⟩
    obtain ⟨k, hk, rfl⟩ := nI_of0 h1 h2 hb
    exact ⟨k, hk, rfl⟩
  · rintro ⟨n, hn, rfl⟩
    exact ⟨nI_pos (by omega), (nI_ltI (by omega) hb).mpr hn⟩
theorem sub100 {c : Int32} {x : Nat} : c - nI 100 = nI x ↔ c = nI (100 + x) := by
  constructor
  · intro h
    have e := congrArg (fun z => z + nI 100) h
    simp only [Int32.sub_add_cancel] at e
    rw [e, nI_add, Nat.add_comm]
  · intro h
    rw [h, Nat.add_comm, ← nI_add, Int32.add_sub_cancel]
theorem insK_last {w : Nat} : ∀ (l : List Nat), (∀ x ∈ l, ¬ w < x) → insK id w l = l ++ [w] := by
  intro l
  induction l with
  | nil => intro _; rfl
  | cons x l ih =>
    intro h
    unfold insK
    rw [if_neg (fun g => h x List.mem_cons_self g.1), ih (fun y hy => h y (List.mem_cons_of_mem _ hy))]
    rfl
def tq (M : sm_M) (K A B : Nat → Int32) (N : Nat) : Prop := M 1 6 = nI N ∧ N ≤ 900 ∧ M 2 = K ∧ M 3 = A ∧ M 4 = B
theorem tq_keep {M M2 : sm_M} {K A B : Nat → Int32} {N : Nat} (h : tq M K A B N) (hk : ∀ p, 1 ≤ p → p ≤ 4 → M2 p = M p) : tq M2 K A B N := by
  unfold tq
  rw [hk 1 (by omega) (by omega), hk 2 (by omega) (by omega), hk 3 (by omega) (by omega), hk 4 (by omega) (by omega)]
  exact h
section P
variable {M : sm_M} {K A B : Nat → Int32} {N : Nat} {t : Int32}
theorem p_kindOf (h : tq M K A B N) : cr 31 0 0 [.ref 1, .int t] M (fun v M1 => v = some (.int (rdAt K N t)) ∧ M1 = M) := by
  obtain ⟨h1, h2, rfl, rfl, rfl⟩ := h
  exact c_kindOf h1 h2
theorem p_xOf (h : tq M K A B N) : cr 33 1 21 [.ref 1, .int t] M (fun v M1 => v = some (.int (rdAt A N t)) ∧ M1 = M) := by
  obtain ⟨h1, h2, rfl, rfl, rfl⟩ := h
  exact c_xOf h1 h2
theorem p_yOf (h : tq M K A B N) : cr 32 1 21 [.ref 1, .int t] M (fun v M1 => v = some (.int (rdAt B N t)) ∧ M1 = M) := by
  obtain ⟨h1, h2, rfl, rfl, rfl⟩ := h
  exact c_yOf h1 h2
theorem p_num (h : tq M K A B N) : cr 34 1 21 [.ref 1, .int t, .int (nI 1)] M (fun v M1 => v = some (.int (num K A N t)) ∧ M1 = M) := by
  obtain ⟨h1, h2, rfl, rfl, rfl⟩ := h
  exact c_valueOf h1 h2 (by omega)
theorem p_atm (h : tq M K A B N) : cr 34 1 21 [.ref 1, .int t, .int (nI 0)] M (fun v M1 => v = some (.int (atm K A N t)) ∧ M1 = M) := by
  obtain ⟨h1, h2, rfl, rfl, rfl⟩ := h
  exact c_valueOf h1 h2 (by omega)
theorem p_tail {n : Nat} (h : tq M K A B N) (hn : n < 100) : cr 30 0 0 [.ref 1, .int t, .int (nI n)] M (fun v M1 => v = some (.int (tailF K B N n t)) ∧ M1 = M) := by
  obtain ⟨h1, h2, rfl, rfl, rfl⟩ := h
  exact c_tailOf h1 h2 hn
theorem p_part {n : Nat} (h : tq M K A B N) (hn : n < 100) : cr 29 1 24 [.ref 1, .int t, .int (nI n)] M (fun v M1 => v = some (.int (partF K A B N t n)) ∧ M1 = M) := by
  obtain ⟨h1, h2, rfl, rfl, rfl⟩ := h
  exact c_partOf h1 h2 hn
end P
theorem c_hbox {M : sm_M} {K A B : Nat → Int32} {N : Nat} {t : Int32} (ht : tq M K A B N) : cr 46 2 43 [.ref 1, .int t] M (fun v M1 => v = some (.int (hbF K A B N t)) ∧ M1 = M) := by
  intro X J rc rs d lw hd hw
  show sm_wp tb_T X tb_ok d lw 46 0 [some (.ref 1), some (.int t), none, none] [] _ _
  refine go_al0 (p := 1) hf_46 rfl rfl ?_
  refine go_il1 (p := 2) hf_46 rfl rfl ?_
  refine go_cw2 (p := 5) hf_46 rfl rfl (inv_v ho_46 cl_2_97) (by decide) nl_33 rfl rfl rfl rfl rfl rfl (by omega) (by omega) (p_xOf ht) ?_
  intro v9 M9 h9
  rewrite [h9.1, h9.2]
  clear h9 v9 M9
  simp only [Option.toList, List.cons_append, List.nil_append]
  refine go_is2 (p := 6) hf_46 rfl rfl ?_
  refine go_al0 (p := 7) hf_46 rfl rfl ?_
  refine go_il1 (p := 8) hf_46 rfl rfl ?_
  refine go_cw2 (p := 11) hf_46 rfl rfl (inv_v ho_46 cl_2_91) (by decide) nl_31 rfl rfl rfl rfl rfl rfl (by omega) (by omega) (p_kindOf ht) ?_
  intro v9 M9 h9
  rewrite [h9.1, h9.2]
  clear h9 v9 M9
  simp only [Option.toList, List.cons_append, List.nil_append]
  refine go_iconst (p := 12) hf_46 rfl rfl ci_3 ?_
  refine go_ic_ne (p := 15) (p2 := 24) hf_46 rfl rfl rfl (fun h12 => ?_) (fun h12 => ?_)
  · refine go_iconst (p := 25) hf_46 rfl rfl ci_m1 ?_
    refine go_ret1 hf_46 rfl nl_46 ?_
    refine ⟨_, _, rfl, rfl, ?_, rfl⟩
    unfold hbF
    rw [if_neg (fun g => h12 g.1)]
  · refine go_al0 (p := 16) hf_46 rfl rfl ?_
    refine go_il2 (p := 17) hf_46 rfl rfl ?_
    refine go_cw2 (p := 20) hf_46 rfl rfl (inv_v ho_46 cl_2_91) (by decide) nl_31 rfl rfl rfl rfl rfl rfl (by omega) (by omega) (p_kindOf ht) ?_
    intro v9 M9 h9
    rewrite [h9.1, h9.2]
    clear h9 v9 M9
    simp only [Option.toList, List.cons_append, List.nil_append]
    refine go_iconst (p := 21) hf_46 rfl rfl ci_2 ?_
    refine go_ic_eq (p := 24) (p2 := 26) hf_46 rfl rfl rfl (fun h21 => ?_) (fun h21 => ?_)
    · refine go_al0 (p := 27) hf_46 rfl rfl ?_
      refine go_al0 (p := 28) hf_46 rfl rfl ?_
      refine go_il1 (p := 29) hf_46 rfl rfl ?_
      refine go_cw2 (p := 32) hf_46 rfl rfl (inv_v ho_46 cl_2_94) (by decide) nl_32 rfl rfl rfl rfl rfl rfl (by omega) (by omega) (p_yOf ht) ?_
      intro v9 M9 h9
      rewrite [h9.1, h9.2]
      clear h9 v9 M9
      simp only [Option.toList, List.cons_append, List.nil_append]
      refine go_iconst (p := 33) hf_46 rfl rfl ci_0 ?_
      refine go_cw3 (p := 36) hf_46 rfl rfl (inv_v ho_46 cl_2_100) (by decide) nl_34 rfl rfl rfl rfl rfl rfl (by omega) (by omega) (p_atm ht) ?_
      intro v9 M9 h9
      rewrite [h9.1, h9.2]
      clear h9 v9 M9
      simp only [Option.toList, List.cons_append, List.nil_append]
      refine go_bipush (p := 38) hf_46 rfl rfl cb_9 ?_
      refine go_ic_ne (p := 41) (p2 := 60) hf_46 rfl rfl rfl (fun h38 => ?_) (fun h38 => ?_)
      · refine go_iconst (p := 61) hf_46 rfl rfl ci_0 ?_
        refine go_is3 (p := 62) hf_46 rfl rfl ?_
        refine go_il3 (p := 63) hf_46 rfl rfl ?_
        refine go_if_eq (p := 66) (p2 := 79) hf_46 rfl rfl rfl (fun h63 => ?_) (fun h63 => absurd rfl h63)
        refine go_iconst (p := 80) hf_46 rfl rfl ci_m1 ?_
        refine go_ret1 hf_46 rfl nl_46 ?_
        refine ⟨_, _, rfl, rfl, ?_, rfl⟩
        unfold hbF
        rw [if_neg (fun g => h38 g.2.2.1)]
      · refine go_al0 (p := 42) hf_46 rfl rfl ?_
        refine go_al0 (p := 43) hf_46 rfl rfl ?_
        refine go_il2 (p := 44) hf_46 rfl rfl ?_
        refine go_cw2 (p := 47) hf_46 rfl rfl (inv_v ho_46 cl_2_94) (by decide) nl_32 rfl rfl rfl rfl rfl rfl (by omega) (by omega) (p_yOf ht) ?_
        intro v9 M9 h9
        rewrite [h9.1, h9.2]
        clear h9 v9 M9
        simp only [Option.toList, List.cons_append, List.nil_append]
        refine go_iconst (p := 48) hf_46 rfl rfl ci_0 ?_
        refine go_cw3 (p := 51) hf_46 rfl rfl (inv_v ho_46 cl_2_100) (by decide) nl_34 rfl rfl rfl rfl rfl rfl (by omega) (by omega) (p_atm ht) ?_
        intro v9 M9 h9
        rewrite [h9.1, h9.2]
        clear h9 v9 M9
        simp only [Option.toList, List.cons_append, List.nil_append]
        refine go_bipush (p := 53) hf_46 rfl rfl cb_8 ?_
        refine go_ic_ne (p := 56) (p2 := 60) hf_46 rfl rfl rfl (fun h53 => ?_) (fun h53 => ?_)
        · refine go_iconst (p := 61) hf_46 rfl rfl ci_0 ?_
          refine go_is3 (p := 62) hf_46 rfl rfl ?_
          refine go_il3 (p := 63) hf_46 rfl rfl ?_
          refine go_if_eq (p := 66) (p2 := 79) hf_46 rfl rfl rfl (fun h63 => ?_) (fun h63 => absurd rfl h63)
          refine go_iconst (p := 80) hf_46 rfl rfl ci_m1 ?_
          refine go_ret1 hf_46 rfl nl_46 ?_
          refine ⟨_, _, rfl, rfl, ?_, rfl⟩
          unfold hbF
          rw [if_neg (fun g => h53 g.2.2.2)]
        · refine go_iconst (p := 57) hf_46 rfl rfl ci_1 ?_
          refine go_goto (p2 := 61) hf_46 rfl rfl ?_
          refine go_is3 (p := 62) hf_46 rfl rfl ?_
          refine go_il3 (p := 63) hf_46 rfl rfl ?_
          refine go_if_eq (p := 66) (p2 := 79) hf_46 rfl rfl rfl (fun h63 => absurd h63 nI_10) (fun h63 => ?_)
          refine go_al0 (p := 67) hf_46 rfl rfl ?_
          refine go_al0 (p := 68) hf_46 rfl rfl ?_
          refine go_il2 (p := 69) hf_46 rfl rfl ?_
          refine go_cw2 (p := 72) hf_46 rfl rfl (inv_v ho_46 cl_2_97) (by decide) nl_33 rfl rfl rfl rfl rfl rfl (by omega) (by omega) (p_xOf ht) ?_
          intro v9 M9 h9
          rewrite [h9.1, h9.2]
          clear h9 v9 M9
          simp only [Option.toList, List.cons_append, List.nil_append]
          refine go_iconst (p := 73) hf_46 rfl rfl ci_0 ?_
          refine go_cw3 (p := 76) hf_46 rfl rfl (inv_v ho_46 cl_2_100) (by decide) nl_34 rfl rfl rfl rfl rfl rfl (by omega) (by omega) (p_atm ht) ?_
          intro v9 M9 h9
          rewrite [h9.1, h9.2]
          clear h9 v9 M9
          simp only [Option.toList, List.cons_append, List.nil_append]
          refine go_goto (p2 := 80) hf_46 rfl rfl ?_
          refine go_ret1 hf_46 rfl nl_46 ?_
          refine ⟨_, _, rfl, rfl, ?_, rfl⟩
          unfold hbF
          rw [if_pos ⟨h12, h21, h38, h53⟩]
    · refine go_iconst (p := 25) hf_46 rfl rfl ci_m1 ?_
      refine go_ret1 hf_46 rfl nl_46 ?_
      refine ⟨_, _, rfl, rfl, ?_, rfl⟩
      unfold hbF
      rw [if_neg (fun g => h21 g.2.1)]
theorem c_readHeader {M : sm_M} {K A B : Nat → Int32} {N : Nat} {t : Int32} (ht : tq M K A B N) : cr 45 3 66 [.ref 1, .int t, .ref 36] M (fun v M1 => v = some (.int (bI ((∃ n, n < 31 ∧ num K A N (partF K A B N t 0) = nI n) ∧ (∃ n, n < 3 ∧ num K A N (partF K A B N t 1) = nI n) ∧ (∃ n, n < 8 ∧ hbF K A B N (partF K A B N t 2) = nI n)))) ∧ M1 = sm_up (sm_up (sm_up M 36 0 (num K A N (partF K A B N t 0))) 36 1 (num K A N (partF K A B N t 1))) 36 2 (hbF K A B N (partF K A B N t 2))) := by
  intro X J rc rs d lw hd hw
  show sm_wp tb_T X tb_ok d lw 45 0 [some (.ref 1), some (.int t), some (.ref 36), none, none, none] [] _ _
  refine go_al0 (p := 1) hf_45 rfl rfl ?_
  refine go_al0 (p := 2) hf_45 rfl rfl ?_
  refine go_il1 (p := 3) hf_45 rfl rfl ?_
  refine go_iconst (p := 4) hf_45 rfl rfl ci_0 ?_
  refine go_cw3 (p := 7) hf_45 rfl rfl (inv_v ho_45 cl_2_84) (by decide) nl_29 rfl rfl rfl rfl rfl rfl (by omega) (by omega) (p_part ht (by omega)) ?_
  intro v9 M9 h9
  rewrite [h9.1, h9.2]
  clear h9 v9 M9
  simp only [Option.toList, List.cons_append, List.nil_append]
  refine go_iconst (p := 8) hf_45 rfl rfl ci_1 ?_
  refine go_cw3 (p := 11) hf_45 rfl rfl (inv_v ho_45 cl_2_100) (by decide) nl_34 rfl rfl rfl rfl rfl rfl (by omega) (by omega) (p_num ht) ?_
  intro v9 M9 h9
  rewrite [h9.1, h9.2]
  clear h9 v9 M9
  simp only [Option.toList, List.cons_append, List.nil_append]
  refine go_is3 (p := 12) hf_45 rfl rfl ?_
  refine go_al0 (p := 13) hf_45 rfl rfl ?_
  refine go_al0 (p := 14) hf_45 rfl rfl ?_
  refine go_il1 (p := 15) hf_45 rfl rfl ?_
  refine go_iconst (p := 16) hf_45 rfl rfl ci_1 ?_
  refine go_cw3 (p := 19) hf_45 rfl rfl (inv_v ho_45 cl_2_84) (by decide) nl_29 rfl rfl rfl rfl rfl rfl (by omega) (by omega) (p_part ht (by omega)) ?_
  intro v9 M9 h9
  rewrite [h9.1, h9.2]
  clear h9 v9 M9
  simp only [Option.toList, List.cons_append, List.nil_append]
  refine go_iconst (p := 20) hf_45 rfl rfl ci_1 ?_
  refine go_cw3 (p := 23) hf_45 rfl rfl (inv_v ho_45 cl_2_100) (by decide) nl_34 rfl rfl rfl rfl rfl rfl (by omega) (by omega) (p_num ht) ?_
  intro v9 M9 h9
  rewrite [h9.1, h9.2]
  clear h9 v9 M9
  simp only [Option.toList, List.cons_append, List.nil_append]
  refine go_is4 (p := 25) hf_45 rfl rfl ?_
  refine go_al0 (p := 26) hf_45 rfl rfl ?_
  refine go_al0 (p := 27) hf_45 rfl rfl ?_
  refine go_il1 (p := 28) hf_45 rfl rfl ?_
  refine go_iconst (p := 29) hf_45 rfl rfl ci_2 ?_
  refine go_cw3 (p := 32) hf_45 rfl rfl (inv_v ho_45 cl_2_84) (by decide) nl_29 rfl rfl rfl rfl rfl rfl (by omega) (by omega) (p_part ht (by omega)) ?_
  intro v9 M9 h9
  rewrite [h9.1, h9.2]
  clear h9 v9 M9
  simp only [Option.toList, List.cons_append, List.nil_append]
  refine go_cw2 (p := 35) hf_45 rfl rfl (inv_s ho_45 cl_2_113) (by decide) nl_46 rfl rfl rfl rfl rfl rfl (by omega) (by omega) (c_hbox ht) ?_
  intro v9 M9 h9
  rewrite [h9.1, h9.2]
  clear h9 v9 M9
  simp only [Option.toList, List.cons_append, List.nil_append]
  refine go_is5 (p := 37) hf_45 rfl rfl ?_
  refine go_al2 (p := 38) hf_45 rfl rfl ?_
  refine go_il3 (p := 39) hf_45 rfl rfl ?_
  refine go_il4 (p := 41) hf_45 rfl rfl ?_
  refine go_il5 (p := 43) hf_45 rfl rfl ?_
  refine go_cw4 (p := 46) hf_45 rfl rfl (inv_v ho_45 cl_2_116) (by decide) nl_59 rfl rfl rfl rfl rfl rfl (by omega) (by omega) (c_takeHeader stq_36) ?_
  intro v9 M9 h9
  rewrite [h9.1, h9.2]
  clear h9 v9 M9
  simp only [Option.toList, List.cons_append, List.nil_append]
  refine go_il3 (p := 47) hf_45 rfl rfl ?_
  refine go_bipush (p := 49) hf_45 rfl rfl cb_31 ?_
  refine go_cw2 (p := 52) hf_45 rfl rfl (inv_s ho_45 cl_2_120) (by decide) nl_2 rfl rfl rfl rfl rfl rfl (by omega) (by omega) (c_isBelow) ?_
  intro v9 M9 h9
  rewrite [h9.1, h9.2]
  clear h9 v9 M9
  simp only [Option.toList, List.cons_append, List.nil_append]
  refine go_if_eq (p := 55) (p2 := 78) hf_45 rfl rfl rfl (fun h52 => ?_) (fun h52 => ?_)
  · refine go_iconst (p := 79) hf_45 rfl rfl ci_0 ?_
    refine go_ret2 hf_45 rfl nl_45 (by first | exact Or.inl rfl | exact Or.inr rfl | assumption) ?_
    refine ⟨_, _, rfl, rfl, ?_, rfl⟩
    rw [bI_f (fun g => bI_0.mp h52 ((below_iff (by omega)).mpr g.1))]
  · refine go_il4 (p := 57) hf_45 rfl rfl ?_
    refine go_iconst (p := 58) hf_45 rfl rfl ci_3 ?_
    refine go_cw2 (p := 61) hf_45 rfl rfl (inv_s ho_45 cl_2_120) (by decide) nl_2 rfl rfl rfl rfl rfl rfl (by omega) (by omega) (c_isBelow) ?_
    intro v9 M9 h9
    rewrite [h9.1, h9.2]
    clear h9 v9 M9
    simp only [Option.toList, List.cons_append, List.nil_append]
    refine go_if_eq (p := 64) (p2 := 78) hf_45 rfl rfl rfl (fun h61 => ?_) (fun h61 => ?_)
    · refine go_iconst (p := 79) hf_45 rfl rfl ci_0 ?_
      refine go_ret2 hf_45 rfl nl_45 (by first | exact Or.inl rfl | exact Or.inr rfl | assumption) ?_
      refine ⟨_, _, rfl, rfl, ?_, rfl⟩
      rw [bI_f (fun g => bI_0.mp h61 ((below_iff (by omega)).mpr g.2.1))]
    · refine go_il5 (p := 66) hf_45 rfl rfl ?_
      refine go_bipush (p := 68) hf_45 rfl rfl cb_8 ?_
      refine go_cw2 (p := 71) hf_45 rfl rfl (inv_s ho_45 cl_2_120) (by decide) nl_2 rfl rfl rfl rfl rfl rfl (by omega) (by omega) (c_isBelow) ?_
      intro v9 M9 h9
      rewrite [h9.1, h9.2]
      clear h9 v9 M9
      simp only [Option.toList, List.cons_append, List.nil_append]
      refine go_if_eq (p := 74) (p2 := 78) hf_45 rfl rfl rfl (fun h71 => ?_) (fun h71 => ?_)
      · refine go_iconst (p := 79) hf_45 rfl rfl ci_0 ?_
        refine go_ret2 hf_45 rfl nl_45 (by first | exact Or.inl rfl | exact Or.inr rfl | assumption) ?_
        refine ⟨_, _, rfl, rfl, ?_, rfl⟩
        rw [bI_f (fun g => bI_0.mp h71 ((below_iff (by omega)).mpr g.2.2))]
      · refine go_iconst (p := 75) hf_45 rfl rfl ci_1 ?_
        refine go_goto (p2 := 79) hf_45 rfl rfl ?_
        refine go_ret2 hf_45 rfl nl_45 (by first | exact Or.inl rfl | exact Or.inr rfl | assumption) ?_
        refine ⟨_, _, rfl, rfl, ?_, rfl⟩
        rw [bI_t ⟨(below_iff (by omega)).mp (bI_n0.mp h52), (below_iff (by omega)).mp (bI_n0.mp h61), (below_iff (by omega)).mp (bI_n0.mp h71)⟩]
theorem c_readVector {M : sm_M} {K A B : Nat → Int32} {N : Nat} {t : Int32} (ht : tq M K A B N) : cr 47 2 47 [.ref 1, .int t, .ref 36] M (fun v M1 => v = some (.int (bI (∀ j, j < 3 → ∃ n, n < 31 ∧ num K A N (partF K A B N t (3 + j)) = nI n))) ∧ ((∀ j, j < 3 → ∃ n, n < 31 ∧ num K A N (partF K A B N t (3 + j)) = nI n) → ∀ j, j < 3 → M1 37 j = num K A N (partF K A B N t (3 + j))) ∧ ∀ a, a ≠ 37 → M1 a = M a) := by
  intro X J rc rs d lw hd hw
  show sm_wp tb_T X tb_ok d lw 47 0 [some (.ref 1), some (.int t), some (.ref 36), none, none] [] _ _
  have loop : ∀ (n i : Nat) (y4 : Option Value) (M2 : sm_M), i + n = 3 → (∀ j, j < i → (∃ n, n < 31 ∧ num K A N (partF K A B N t (3 + j)) = nI n) ∧ M2 37 j = num K A N (partF K A B N t (3 + j))) → (∀ a, a ≠ 37 → M2 a = M a) → sm_wp tb_T X tb_ok d lw 47 2 [some (.ref 1), some (.int t), some (.ref 36), some (.int (nI i)), y4] [] (wSH, M2, J, rc, rs) (fun o h' => ∃ v M1, o = .inl v ∧ h' = (wSH, M1, J, rc, rs) ∧ v = some (.int (bI (∀ j, j < 3 → ∃ n, n < 31 ∧ num K A N (partF K A B N t (3 + j)) = nI n))) ∧ ((∀ j, j < 3 → ∃ n, n < 31 ∧ num K A N (partF K A B N t (3 + j)) = nI n) → ∀ j, j < 3 → M1 37 j = num K A N (partF K A B N t (3 + j))) ∧ ∀ a, a ≠ 37 → M1 a = M a) := by
    intro n
    induction n with
    | zero =>
      intro i y4 M2 hi h1 hfr
      refine go_il3 (p := 3) hf_47 rfl rfl ?_
      refine go_iconst (p := 4) hf_47 rfl rfl ci_3 ?_
      first | refine go_nn_ge (p := 7) (p2 := 48) hf_47 rfl rfl rfl (by omega) (by omega) (fun h4 => ?_) (fun h4 => absurd h4 (by omega)) | refine go_ic_ge (p := 7) (p2 := 48) hf_47 rfl rfl rfl (fun h4 => ?_) (fun h4 => absurd h4 (by omega))
      refine go_iconst (p := 49) hf_47 rfl rfl ci_1 ?_
      refine go_ret2 hf_47 rfl nl_47 (by first | exact Or.inl rfl | exact Or.inr rfl | assumption) ?_
      exact ⟨_, _, rfl, rfl, by rw [bI_t (fun j hj => (h1 j (by omega)).1)], fun _ j hj => (h1 j (by omega)).2, hfr⟩
    | succ n ih =>
      intro i y4 M2 hi h1 hfr
      have ht2 : tq M2 K A B N := tq_keep ht (fun p _ _ => hfr p (by omega))
      refine go_il3 (p := 3) hf_47 rfl rfl ?_
      refine go_iconst (p := 4) hf_47 rfl rfl ci_3 ?_
      first | refine go_nn_ge (p := 7) (p2 := 48) hf_47 rfl rfl rfl (by omega) (by omega) (fun h4 => absurd h4 (by omega)) (fun h4 => ?_) | refine go_ic_ge (p := 7) (p2 := 48) hf_47 rfl rfl rfl (fun h4 => absurd h4 (by omega)) (fun h4 => ?_)
      refine go_al0 (p := 8) hf_47 rfl rfl ?_
      refine go_al0 (p := 9) hf_47 rfl rfl ?_
      refine go_il1 (p := 10) hf_47 rfl rfl ?_
      refine go_iconst (p := 11) hf_47 rfl rfl ci_3 ?_
      refine go_il3 (p := 12) hf_47 rfl rfl ?_
      refine go_iadd (p := 13) hf_47 rfl rfl (by first | exact nI_add _ _ | exact rfl) ?_
      refine go_cw3 (p := 16) hf_47 rfl rfl (inv_v ho_47 cl_2_84) (by decide) nl_29 rfl rfl rfl rfl rfl rfl (by omega) (by omega) (p_part ht2 (by omega)) ?_
      intro v9 M9 h9
      rewrite [h9.1, h9.2]
      clear h9 v9 M9
      simp only [Option.toList, List.cons_append, List.nil_append]
      refine go_iconst (p := 17) hf_47 rfl rfl ci_1 ?_
      refine go_cw3 (p := 20) hf_47 rfl rfl (inv_v ho_47 cl_2_100) (by decide) nl_34 rfl rfl rfl rfl rfl rfl (by omega) (by omega) (p_num ht2) ?_
      intro v9 M9 h9
      rewrite [h9.1, h9.2]
      clear h9 v9 M9
      simp only [Option.toList, List.cons_append, List.nil_append]
      refine go_is4 (p := 22) hf_47 rfl rfl ?_
      refine go_il4 (p := 24) hf_47 rfl rfl ?_
      refine go_bipush (p := 26) hf_47 rfl rfl cb_31 ?_
      refine go_cw2 (p := 29) hf_47 rfl rfl (inv_s ho_47 cl_2_120) (by decide) nl_2 rfl rfl rfl rfl rfl rfl (by omega) (by omega) (c_isBelow) ?_
      intro v9 M9 h9
      rewrite [h9.1, h9.2]
      clear h9 v9 M9
      simp only [Option.toList, List.cons_append, List.nil_append]
      refine go_if_ne (p := 32) (p2 := 34) hf_47 rfl rfl rfl (fun h29 => ?_) (fun h29 => ?_)
      · refine go_al2 (p := 35) hf_47 rfl rfl ?_
        refine go_getr (p := 38) hf_47 ho_47 rfl fl_2_31 rfl rfl rfl ?_
        refine go_il3 (p := 39) hf_47 rfl rfl ?_
        refine go_il4 (p := 41) hf_47 rfl rfl ?_
        refine go_iast (p := 42) hf_47 rfl rfl rfl rfl (by first | exact rfl | with_reducible assumption) (by omega) ?_
        refine go_ic3 (p := 45) hf_47 rfl rfl (by first | exact inc1 _ | exact rfl) ?_
        refine go_goto (p2 := 2) hf_47 rfl rfl ?_
        refine ih (i + 1) _ _ (by omega) (fun j hj => ?_) (fun a ha => by unfold sm_up; rw [if_neg ha]; exact hfr a ha)
        by_cases hj2 : j = i
        · subst hj2
          exact ⟨(below_iff (by omega)).mp (bI_n0.mp h29), up_s⟩
        · rw [up_i hj2]
          exact h1 j (by omega)
      · refine go_iconst (p := 33) hf_47 rfl rfl ci_0 ?_
        refine go_ret2 hf_47 rfl nl_47 (by first | exact Or.inl rfl | exact Or.inr rfl | assumption) ?_
        have hno : ¬ ∀ j, j < 3 → ∃ n, n < 31 ∧ num K A N (partF K A B N t (3 + j)) = nI n := fun g => bI_0.mp h29 ((below_iff (by omega)).mpr (g i (by omega)))
        exact ⟨_, _, rfl, rfl, by rw [bI_f hno], fun g => absurd g hno, hfr⟩
  refine go_iconst (p := 1) hf_47 rfl rfl ci_0 ?_
  refine go_is3 (p := 2) hf_47 rfl rfl ?_
  exact loop 3 0 _ M (by omega) (fun j hj => absurd hj (Nat.not_lt_zero j)) (fun _ _ => rfl)
theorem c_readEntry {M : sm_M} {K A B : Nat → Int32} {N : Nat} {t : Int32} (ht : tq M K A B N) : cr 49 2 47 [.ref 1, .int t] M (fun v M1 => M1 = M ∧ ∃ u, v = some (.int u) ∧ ((∃ w, entR K A B N t w ∧ u = nI w) ∨ ((¬ ∃ w, entR K A B N t w) ∧ u = -1))) := by
  intro X J rc rs d lw hd hw
  show sm_wp tb_T X tb_ok d lw 49 0 [some (.ref 1), some (.int t), none, none, none, none, none, none] [] _ _
  refine go_al0 (p := 1) hf_49 rfl rfl ?_
  refine go_al0 (p := 2) hf_49 rfl rfl ?_
  refine go_il1 (p := 3) hf_49 rfl rfl ?_
  refine go_iconst (p := 4) hf_49 rfl rfl ci_0 ?_
  refine go_cw3 (p := 7) hf_49 rfl rfl (inv_v ho_49 cl_2_84) (by decide) nl_29 rfl rfl rfl rfl rfl rfl (by omega) (by omega) (p_part ht (by omega)) ?_
  intro v9 M9 h9
  rewrite [h9.1, h9.2]
  clear h9 v9 M9
  simp only [Option.toList, List.cons_append, List.nil_append]
  refine go_iconst (p := 8) hf_49 rfl rfl ci_1 ?_
  refine go_cw3 (p := 11) hf_49 rfl rfl (inv_v ho_49 cl_2_100) (by decide) nl_34 rfl rfl rfl rfl rfl rfl (by omega) (by omega) (p_num ht) ?_
  intro v9 M9 h9
  rewrite [h9.1, h9.2]
  clear h9 v9 M9
  simp only [Option.toList, List.cons_append, List.nil_append]
  refine go_is2 (p := 12) hf_49 rfl rfl ?_
  refine go_al0 (p := 13) hf_49 rfl rfl ?_
  refine go_al0 (p := 14) hf_49 rfl rfl ?_
  refine go_il1 (p := 15) hf_49 rfl rfl ?_
  refine go_iconst (p := 16) hf_49 rfl rfl ci_1 ?_
  refine go_cw3 (p := 19) hf_49 rfl rfl (inv_v ho_49 cl_2_84) (by decide) nl_29 rfl rfl rfl rfl rfl rfl (by omega) (by omega) (p_part ht (by omega)) ?_
  intro v9 M9 h9
  rewrite [h9.1, h9.2]
  clear h9 v9 M9
  simp only [Option.toList, List.cons_append, List.nil_append]
  refine go_iconst (p := 20) hf_49 rfl rfl ci_1 ?_
  refine go_cw3 (p := 23) hf_49 rfl rfl (inv_v ho_49 cl_2_100) (by decide) nl_34 rfl rfl rfl rfl rfl rfl (by omega) (by omega) (p_num ht) ?_
  intro v9 M9 h9
  rewrite [h9.1, h9.2]
  clear h9 v9 M9
  simp only [Option.toList, List.cons_append, List.nil_append]
  refine go_is3 (p := 24) hf_49 rfl rfl ?_
  refine go_al0 (p := 25) hf_49 rfl rfl ?_
  refine go_al0 (p := 26) hf_49 rfl rfl ?_
  refine go_il1 (p := 27) hf_49 rfl rfl ?_
  refine go_iconst (p := 28) hf_49 rfl rfl ci_2 ?_
  refine go_cw3 (p := 31) hf_49 rfl rfl (inv_v ho_49 cl_2_84) (by decide) nl_29 rfl rfl rfl rfl rfl rfl (by omega) (by omega) (p_part ht (by omega)) ?_
  intro v9 M9 h9
  rewrite [h9.1, h9.2]
  clear h9 v9 M9
  simp only [Option.toList, List.cons_append, List.nil_append]
  refine go_iconst (p := 32) hf_49 rfl rfl ci_1 ?_
  refine go_cw3 (p := 35) hf_49 rfl rfl (inv_v ho_49 cl_2_100) (by decide) nl_34 rfl rfl rfl rfl rfl rfl (by omega) (by omega) (p_num ht) ?_
  intro v9 M9 h9
  rewrite [h9.1, h9.2]
  clear h9 v9 M9
  simp only [Option.toList, List.cons_append, List.nil_append]
  refine go_is4 (p := 37) hf_49 rfl rfl ?_
  refine go_al0 (p := 38) hf_49 rfl rfl ?_
  refine go_il1 (p := 39) hf_49 rfl rfl ?_
  refine go_iconst (p := 40) hf_49 rfl rfl ci_3 ?_
  refine go_cw3 (p := 43) hf_49 rfl rfl (inv_v ho_49 cl_2_88) (by decide) nl_30 rfl rfl rfl rfl rfl rfl (by omega) (by omega) (p_tail ht (by omega)) ?_
  intro v9 M9 h9
  rewrite [h9.1, h9.2]
  clear h9 v9 M9
  simp only [Option.toList, List.cons_append, List.nil_append]
  refine go_is5 (p := 45) hf_49 rfl rfl ?_
  refine go_il2 (p := 46) hf_49 rfl rfl ?_
  refine go_iconst (p := 47) hf_49 rfl rfl ci_4 ?_
  refine go_cw2 (p := 50) hf_49 rfl rfl (inv_s ho_49 cl_2_120) (by decide) nl_2 rfl rfl rfl rfl rfl rfl (by omega) (by omega) (c_isBelow) ?_
  intro v9 M9 h9
  rewrite [h9.1, h9.2]
  clear h9 v9 M9
  simp only [Option.toList, List.cons_append, List.nil_append]
  refine go_if_eq (p := 53) (p2 := 71) hf_49 rfl rfl rfl (fun h50 => ?_) (fun h50 => ?_)
  · refine go_iconst (p := 72) hf_49 rfl rfl ci_m1 ?_
    refine go_ret1 hf_49 rfl nl_49 ?_
    refine ⟨_, _, rfl, rfl, rfl, _, rfl, Or.inr ⟨?_, rfl⟩⟩
    rintro ⟨w, i, k, c, x, e, a1, a2, a3, a4, b1, b2, b3, b4, b5, b6⟩
    exact bI_0.mp h50 ((below_iff (by omega)).mpr ⟨i, a1, b1⟩)
  · refine go_il3 (p := 54) hf_49 rfl rfl ?_
    refine go_iconst (p := 55) hf_49 rfl rfl ci_3 ?_
    refine go_cw2 (p := 58) hf_49 rfl rfl (inv_s ho_49 cl_2_120) (by decide) nl_2 rfl rfl rfl rfl rfl rfl (by omega) (by omega) (c_isBelow) ?_
    intro v9 M9 h9
    rewrite [h9.1, h9.2]
    clear h9 v9 M9
    simp only [Option.toList, List.cons_append, List.nil_append]
    refine go_if_eq (p := 61) (p2 := 71) hf_49 rfl rfl rfl (fun h58 => ?_) (fun h58 => ?_)
    · refine go_iconst (p := 72) hf_49 rfl rfl ci_m1 ?_
      refine go_ret1 hf_49 rfl nl_49 ?_
      refine ⟨_, _, rfl, rfl, rfl, _, rfl, Or.inr ⟨?_, rfl⟩⟩
      rintro ⟨w, i, k, c, x, e, a1, a2, a3, a4, b1, b2, b3, b4, b5, b6⟩
      exact bI_0.mp h58 ((below_iff (by omega)).mpr ⟨k, a2, b2⟩)
    · refine go_il4 (p := 63) hf_49 rfl rfl ?_
      refine go_bipush (p := 65) hf_49 rfl rfl cb_31 ?_
      refine go_cw2 (p := 68) hf_49 rfl rfl (inv_s ho_49 cl_2_120) (by decide) nl_2 rfl rfl rfl rfl rfl rfl (by omega) (by omega) (c_isBelow) ?_
      intro v9 M9 h9
      rewrite [h9.1, h9.2]
      clear h9 v9 M9
      simp only [Option.toList, List.cons_append, List.nil_append]
      refine go_if_ne (p := 71) (p2 := 73) hf_49 rfl rfl rfl (fun h68 => ?_) (fun h68 => ?_)
      · refine go_al0 (p := 74) hf_49 rfl rfl ?_
        refine go_al0 (p := 75) hf_49 rfl rfl ?_
        refine go_il5 (p := 77) hf_49 rfl rfl ?_
        refine go_cw2 (p := 80) hf_49 rfl rfl (inv_v ho_49 cl_2_94) (by decide) nl_32 rfl rfl rfl rfl rfl rfl (by omega) (by omega) (p_yOf ht) ?_
        intro v9 M9 h9
        rewrite [h9.1, h9.2]
        clear h9 v9 M9
        simp only [Option.toList, List.cons_append, List.nil_append]
        refine go_iconst (p := 81) hf_49 rfl rfl ci_0 ?_
        refine go_cw3 (p := 84) hf_49 rfl rfl (inv_v ho_49 cl_2_100) (by decide) nl_34 rfl rfl rfl rfl rfl rfl (by omega) (by omega) (p_atm ht) ?_
        intro v9 M9 h9
        rewrite [h9.1, h9.2]
        clear h9 v9 M9
        simp only [Option.toList, List.cons_append, List.nil_append]
        refine go_bipush (p := 86) hf_49 rfl rfl cb_100 ?_
        refine go_isub (p := 87) hf_49 rfl rfl rfl ?_
        refine go_is6 (p := 89) hf_49 rfl rfl ?_
        refine go_al0 (p := 90) hf_49 rfl rfl ?_
        refine go_il5 (p := 92) hf_49 rfl rfl ?_
        refine go_cw2 (p := 95) hf_49 rfl rfl (inv_v ho_49 cl_2_91) (by decide) nl_31 rfl rfl rfl rfl rfl rfl (by omega) (by omega) (p_kindOf ht) ?_
        intro v9 M9 h9
        rewrite [h9.1, h9.2]
        clear h9 v9 M9
        simp only [Option.toList, List.cons_append, List.nil_append]
        refine go_iconst (p := 96) hf_49 rfl rfl ci_3 ?_
        refine go_ic_ne (p := 99) (p2 := 131) hf_49 rfl rfl rfl (fun h96 => ?_) (fun h96 => ?_)
        · refine go_iconst (p := 132) hf_49 rfl rfl ci_0 ?_
          refine go_is7 (p := 134) hf_49 rfl rfl ?_
          refine go_il7 (p := 136) hf_49 rfl rfl ?_
          refine go_if_eq (p := 139) (p2 := 151) hf_49 rfl rfl rfl (fun h136 => ?_) (fun h136 => absurd rfl h136)
          refine go_iconst (p := 152) hf_49 rfl rfl ci_m1 ?_
          refine go_ret1 hf_49 rfl nl_49 ?_
          refine ⟨_, _, rfl, rfl, rfl, _, rfl, Or.inr ⟨?_, rfl⟩⟩
          rintro ⟨w, i, k, c, x, e, a1, a2, a3, a4, b1, b2, b3, b4, b5, b6⟩
          exact h96 b4
        · refine go_al0 (p := 100) hf_49 rfl rfl ?_
          refine go_al0 (p := 101) hf_49 rfl rfl ?_
          refine go_il5 (p := 103) hf_49 rfl rfl ?_
          refine go_cw2 (p := 106) hf_49 rfl rfl (inv_v ho_49 cl_2_97) (by decide) nl_33 rfl rfl rfl rfl rfl rfl (by omega) (by omega) (p_xOf ht) ?_
          intro v9 M9 h9
          rewrite [h9.1, h9.2]
          clear h9 v9 M9
          simp only [Option.toList, List.cons_append, List.nil_append]
          refine go_iconst (p := 107) hf_49 rfl rfl ci_0 ?_
          refine go_cw3 (p := 110) hf_49 rfl rfl (inv_v ho_49 cl_2_100) (by decide) nl_34 rfl rfl rfl rfl rfl rfl (by omega) (by omega) (p_atm ht) ?_
          intro v9 M9 h9
          rewrite [h9.1, h9.2]
          clear h9 v9 M9
          simp only [Option.toList, List.cons_append, List.nil_append]
          refine go_bipush (p := 112) hf_49 rfl rfl cb_10 ?_
          refine go_il2 (p := 113) hf_49 rfl rfl ?_
          refine go_iadd (p := 114) hf_49 rfl rfl rfl ?_
          refine go_ic_ne (p := 117) (p2 := 131) hf_49 rfl rfl rfl (fun h114 => ?_) (fun h114 => ?_)
          · refine go_iconst (p := 132) hf_49 rfl rfl ci_0 ?_
            refine go_is7 (p := 134) hf_49 rfl rfl ?_
            refine go_il7 (p := 136) hf_49 rfl rfl ?_
            refine go_if_eq (p := 139) (p2 := 151) hf_49 rfl rfl rfl (fun h136 => ?_) (fun h136 => absurd rfl h136)
            refine go_iconst (p := 152) hf_49 rfl rfl ci_m1 ?_
            refine go_ret1 hf_49 rfl nl_49 ?_
            refine ⟨_, _, rfl, rfl, rfl, _, rfl, Or.inr ⟨?_, rfl⟩⟩
            rintro ⟨w, i, k, c, x, e, a1, a2, a3, a4, b1, b2, b3, b4, b5, b6⟩
            rw [b1, nI_add] at h114
            exact h114 b5
          · refine go_il6 (p := 119) hf_49 rfl rfl ?_
            refine go_bipush (p := 121) hf_49 rfl rfl cb_64 ?_
            refine go_cw2 (p := 124) hf_49 rfl rfl (inv_s ho_49 cl_2_120) (by decide) nl_2 rfl rfl rfl rfl rfl rfl (by omega) (by omega) (c_isBelow) ?_
            intro v9 M9 h9
            rewrite [h9.1, h9.2]
            clear h9 v9 M9
            simp only [Option.toList, List.cons_append, List.nil_append]
            refine go_if_eq (p := 127) (p2 := 131) hf_49 rfl rfl rfl (fun h124 => ?_) (fun h124 => ?_)
            · refine go_iconst (p := 132) hf_49 rfl rfl ci_0 ?_
              refine go_is7 (p := 134) hf_49 rfl rfl ?_
              refine go_il7 (p := 136) hf_49 rfl rfl ?_
              refine go_if_eq (p := 139) (p2 := 151) hf_49 rfl rfl rfl (fun h136 => ?_) (fun h136 => absurd rfl h136)
              refine go_iconst (p := 152) hf_49 rfl rfl ci_m1 ?_
              refine go_ret1 hf_49 rfl nl_49 ?_
              refine ⟨_, _, rfl, rfl, rfl, _, rfl, Or.inr ⟨?_, rfl⟩⟩
              rintro ⟨w, i, k, c, x, e, a1, a2, a3, a4, b1, b2, b3, b4, b5, b6⟩
              exact bI_0.mp h124 ((below_iff (by omega)).mpr ⟨x, a4, sub100.mpr b6⟩)
            · refine go_iconst (p := 128) hf_49 rfl rfl ci_1 ?_
              refine go_goto (p2 := 132) hf_49 rfl rfl ?_
              refine go_is7 (p := 134) hf_49 rfl rfl ?_
              refine go_il7 (p := 136) hf_49 rfl rfl ?_
              refine go_if_eq (p := 139) (p2 := 151) hf_49 rfl rfl rfl (fun h136 => absurd h136 nI_10) (fun h136 => ?_)
              obtain ⟨i, hi, ei⟩ := (below_iff (by omega)).mp (bI_n0.mp h50)
              obtain ⟨k, hk, ek⟩ := (below_iff (by omega)).mp (bI_n0.mp h58)
              obtain ⟨c, hc, ec⟩ := (below_iff (by omega)).mp (bI_n0.mp h68)
              obtain ⟨x, hx, ex⟩ := (below_iff (by omega)).mp (bI_n0.mp h124)
              rw [ei, ek, ec, ex]
              refine go_il2 (p := 140) hf_49 rfl rfl ?_
              refine go_il3 (p := 141) hf_49 rfl rfl ?_
              refine go_il4 (p := 143) hf_49 rfl rfl ?_
              refine go_il6 (p := 145) hf_49 rfl rfl ?_
              refine go_cw4 (p := 148) hf_49 rfl rfl (inv_s ho_49 cl_2_134) (by decide) nl_125 rfl rfl rfl rfl rfl rfl (by omega) (by omega) (c_pack hi (by omega) (by omega) hx) ?_
              intro v9 M9 h9
              rewrite [h9.1, h9.2]
              clear h9 v9 M9
              simp only [Option.toList, List.cons_append, List.nil_append]
              refine go_goto (p2 := 152) hf_49 rfl rfl ?_
              refine go_ret1 hf_49 rfl nl_49 ?_
              refine ⟨_, _, rfl, rfl, rfl, _, rfl, Or.inl ⟨_, ⟨i, k, c, x, rfl, hi, hk, hc, hx, ei, ek, ec, h96, ?_, sub100.mp ex⟩, rfl⟩⟩
              rw [h114, ei, nI_add]
      · refine go_iconst (p := 72) hf_49 rfl rfl ci_m1 ?_
        refine go_ret1 hf_49 rfl nl_49 ?_
        refine ⟨_, _, rfl, rfl, rfl, _, rfl, Or.inr ⟨?_, rfl⟩⟩
        rintro ⟨w, i, k, c, x, e, a1, a2, a3, a4, b1, b2, b3, b4, b5, b6⟩
        exact bI_0.mp h68 ((below_iff (by omega)).mpr ⟨c, a3, b3⟩)
theorem c_readEntries {M : sm_M} {K A B : Nat → Int32} {N : Nat} {t : Int32} (ht : tq M K A B N) : cr 48 3 74 [.ref 1, .int t, .ref 36] M (fun v M1 => v = some (.int (bI (∃ l, rdL K A B N (M 37) 12 t [] l))) ∧ (∀ l, rdL K A B N (M 37) 12 t [] l → es M1 36 l ∧ ∀ w ∈ l, w / 2048 % 4 < 3) ∧ (∀ a j, ¬ (a = 36 ∧ j = 5) → a ≠ 38 → M1 a j = M a j)) := by
  intro X J rc rs d lw hd hw
  show sm_wp tb_T X tb_ok d lw 48 0 [some (.ref 1), some (.int t), some (.ref 36), none, none, none] [] _ _
  have loop : ∀ (n i : Nat) (r : Int32) (a : List Nat) (y5 : Option Value) (M2 : sm_M), i + n = 12 → a.length = i → (∀ l, rdL K A B N (M 37) 12 t [] l ↔ rdL K A B N (M 37) n r a l) → es M2 36 a → (∀ w ∈ a, w / 2048 % 4 < 3) → (∀ a j, ¬ (a = 36 ∧ j = 5) → a ≠ 38 → M2 a j = M a j) → sm_wp tb_T X tb_ok d lw 48 10 [some (.ref 1), some (.int t), some (.ref 36), some (.int r), some (.int (nI i)), y5] [] (wSH, M2, J, rc, rs) (fun o h' => ∃ v M1, o = .inl v ∧ h' = (wSH, M1, J, rc, rs) ∧ v = some (.int (bI (∃ l, rdL K A B N (M 37) 12 t [] l))) ∧ (∀ l, rdL K A B N (M 37) 12 t [] l → es M1 36 l ∧ ∀ w ∈ l, w / 2048 % 4 < 3) ∧ (∀ a j, ¬ (a = 36 ∧ j = 5) → a ≠ 38 → M1 a j = M a j)) := by
    intro n
    induction n with
    | zero =>
      intro i r a y5 M2 hi hal hiff hes hdev hfr
      have ht2 : tq M2 K A B N := tq_keep ht (fun p _ _ => by funext j; exact hfr p j (by omega) (by omega))
      refine go_il4 (p := 12) hf_48 rfl rfl ?_
      refine go_bipush (p := 14) hf_48 rfl rfl cb_12 ?_
      first | refine go_nn_ge (p := 17) (p2 := 76) hf_48 rfl rfl rfl (by omega) (by omega) (fun h14 => ?_) (fun h14 => absurd h14 (by omega)) | refine go_ic_ge (p := 17) (p2 := 76) hf_48 rfl rfl rfl (fun h14 => ?_) (fun h14 => absurd h14 (by omega))
      refine go_al0 (p := 77) hf_48 rfl rfl ?_
      refine go_il3 (p := 78) hf_48 rfl rfl ?_
      refine go_iconst (p := 79) hf_48 rfl rfl ci_1 ?_
      refine go_cw3 (p := 82) hf_48 rfl rfl (inv_v ho_48 cl_2_100) (by decide) nl_34 rfl rfl rfl rfl rfl rfl (by omega) (by omega) (p_num ht2) ?_
      intro v9 M9 h9
      rewrite [h9.1, h9.2]
      clear h9 v9 M9
      simp only [Option.toList, List.cons_append, List.nil_append]
      refine go_if_ne (p := 85) (p2 := 89) hf_48 rfl rfl rfl (fun h82 => ?_) (fun h82 => ?_)
      · refine go_iconst (p := 90) hf_48 rfl rfl ci_0 ?_
        refine go_ret2 hf_48 rfl nl_48 (by first | exact Or.inl rfl | exact Or.inr rfl | assumption) ?_
        refine ⟨_, _, rfl, rfl, ?_, fun l hl => absurd ((hiff l).mp hl).1 h82, hfr⟩
        rw [bI_f]
        rintro ⟨l, hl⟩
        exact h82 ((hiff l).mp hl).1
      · refine go_iconst (p := 86) hf_48 rfl rfl ci_1 ?_
        refine go_goto (p2 := 90) hf_48 rfl rfl ?_
        refine go_ret2 hf_48 rfl nl_48 (by first | exact Or.inl rfl | exact Or.inr rfl | assumption) ?_
        refine ⟨_, _, rfl, rfl, ?_, fun l hl => ?_, hfr⟩
        · rw [bI_t ⟨a, (hiff a).mpr ⟨h82, rfl⟩⟩]
        · rw [((hiff l).mp hl).2]
          exact ⟨hes, hdev⟩
    | succ n ih =>
      intro i r a y5 M2 hi hal hiff hes hdev hfr
      have ht2 : tq M2 K A B N := tq_keep ht (fun p _ _ => by funext j; exact hfr p j (by omega) (by omega))
      have e37 : M2 37 = M 37 := by funext j; exact hfr 37 j (by omega) (by omega)
      refine go_il4 (p := 12) hf_48 rfl rfl ?_
      refine go_bipush (p := 14) hf_48 rfl rfl cb_12 ?_
      first | refine go_nn_ge (p := 17) (p2 := 76) hf_48 rfl rfl rfl (by omega) (by omega) (fun h14 => absurd h14 (by omega)) (fun h14 => ?_) | refine go_ic_ge (p := 17) (p2 := 76) hf_48 rfl rfl rfl (fun h14 => absurd h14 (by omega)) (fun h14 => ?_)
      refine go_al0 (p := 18) hf_48 rfl rfl ?_
      refine go_il3 (p := 19) hf_48 rfl rfl ?_
      refine go_iconst (p := 20) hf_48 rfl rfl ci_1 ?_
      refine go_cw3 (p := 23) hf_48 rfl rfl (inv_v ho_48 cl_2_100) (by decide) nl_34 rfl rfl rfl rfl rfl rfl (by omega) (by omega) (p_num ht2) ?_
      intro v9 M9 h9
      rewrite [h9.1, h9.2]
      clear h9 v9 M9
      simp only [Option.toList, List.cons_append, List.nil_append]
      refine go_if_ne (p := 26) (p2 := 28) hf_48 rfl rfl rfl (fun h23 => ?_) (fun h23 => ?_)
      · refine go_al0 (p := 29) hf_48 rfl rfl ?_
        refine go_al0 (p := 30) hf_48 rfl rfl ?_
        refine go_il3 (p := 31) hf_48 rfl rfl ?_
        refine go_iconst (p := 32) hf_48 rfl rfl ci_0 ?_
        refine go_cw3 (p := 35) hf_48 rfl rfl (inv_v ho_48 cl_2_84) (by decide) nl_29 rfl rfl rfl rfl rfl rfl (by omega) (by omega) (p_part ht2 (by omega)) ?_
        intro v9 M9 h9
        rewrite [h9.1, h9.2]
        clear h9 v9 M9
        simp only [Option.toList, List.cons_append, List.nil_append]
        refine go_cw2 (p := 38) hf_48 rfl rfl (inv_s ho_48 cl_2_124) (by decide) nl_49 rfl rfl rfl rfl rfl rfl (by omega) (by omega) (c_readEntry ht2) ?_
        intro v9 M9 h9
        obtain ⟨h9a, u9, h9b, hu9⟩ := h9
        rewrite [h9a, h9b]
        clear h9a h9b v9 M9
        simp only [Option.toList, List.cons_append, List.nil_append]
        refine go_is5 (p := 40) hf_48 rfl rfl ?_
        refine go_il5 (p := 42) hf_48 rfl rfl ?_
        refine go_iconst (p := 43) hf_48 rfl rfl ci_m1 ?_
        refine go_ic_eq (p := 46) (p2 := 55) hf_48 rfl rfl rfl (fun h43 => ?_) (fun h43 => ?_)
        · refine go_iconst (p := 56) hf_48 rfl rfl ci_0 ?_
          refine go_ret2 hf_48 rfl nl_48 (by first | exact Or.inl rfl | exact Or.inr rfl | assumption) ?_
          have hno : ¬ ∃ l, rdL K A B N (M 37) 12 t [] l := by
            rintro ⟨l, hl⟩
            rcases (hiff l).mp hl with ⟨g, -⟩ | ⟨-, w, g1, -⟩
            · exact h23 g
            · rcases hu9 with ⟨w', q1, q2⟩ | ⟨q1, q2⟩
              · rw [q2] at h43
                exact nI_m1 (by have := (entR_lt q1).1; omega) h43
              · exact q1 ⟨w, g1⟩
          exact ⟨_, _, rfl, rfl, by rw [bI_f hno], fun l hl => absurd ⟨l, hl⟩ hno, hfr⟩
        · obtain ⟨w, q1, q2⟩ : ∃ w, entR K A B N (partF K A B N r 0) w ∧ u9 = nI w := by
            rcases hu9 with q | ⟨-, q⟩
            · exact q
            · exact absurd q h43
          have hw2 := (entR_lt q1).1
          subst q2
          refine go_al2 (p := 47) hf_48 rfl rfl ?_
          refine go_il5 (p := 49) hf_48 rfl rfl ?_
          refine go_cw2 (p := 52) hf_48 rfl rfl (inv_v ho_48 cl_2_127) (by decide) nl_60 rfl rfl rfl rfl rfl rfl (by omega) (by omega) (c_mayFollow stq_36 hes hw2) ?_
          intro v9 M9 h9
          rewrite [h9.1, h9.2, show M2 (36 + 1) = M 37 from e37]
          clear h9 v9 M9
          simp only [Option.toList, List.cons_append, List.nil_append]
          refine go_if_ne (p := 55) (p2 := 57) hf_48 rfl rfl rfl (fun h52 => ?_) (fun h52 => ?_)
          · refine go_al2 (p := 58) hf_48 rfl rfl ?_
            refine go_il5 (p := 60) hf_48 rfl rfl ?_
            refine go_cw2 (p := 63) hf_48 rfl rfl (inv_v ho_48 cl_2_131) (by decide) nl_62 rfl rfl rfl rfl rfl rfl (by omega) (by omega) (c_insert stq_36 hes (by omega) hw2) ?_
            rintro v9 M3 ⟨rfl, i1, i2⟩
            have ht2b : tq M3 K A B N := tq_keep ht2 (fun p _ _ => by funext j; exact i2 p j (by omega) (by omega))
            simp only [Option.toList, List.cons_append, List.nil_append]
            refine go_al0 (p := 64) hf_48 rfl rfl ?_
            refine go_il3 (p := 65) hf_48 rfl rfl ?_
            refine go_iconst (p := 66) hf_48 rfl rfl ci_1 ?_
            refine go_cw3 (p := 69) hf_48 rfl rfl (inv_v ho_48 cl_2_88) (by decide) nl_30 rfl rfl rfl rfl rfl rfl (by omega) (by omega) (p_tail ht2b (by omega)) ?_
            intro v9 M9 h9
            rewrite [h9.1, h9.2]
            clear h9 v9 M9
            simp only [Option.toList, List.cons_append, List.nil_append]
            refine go_is3 (p := 70) hf_48 rfl rfl ?_
            refine go_ic4 (p := 73) hf_48 rfl rfl (by first | exact inc1 _ | exact rfl) ?_
            refine go_goto (p2 := 10) hf_48 rfl rfl ?_
            have hmf := bI_n0.mp h52
            rw [insK_last a (fun x hx => (hmf.2.2.2 x hx).1)] at i1
            refine ih (i + 1) _ (a ++ [w]) _ M3 (by omega) (by simp [hal]) (fun l => ?_) i1 (fun x hx => ?_) (fun p j h1 h2 => by rw [i2 p j h1 h2]; exact hfr p j h1 h2)
            · rw [hiff l]
              constructor
              · rintro (⟨g, -⟩ | ⟨-, w2, g1, g2, g3⟩)
                · exact absurd g h23
                · rw [entR_fun g1 q1] at g3
                  exact g3
              · intro g
                exact Or.inr ⟨h23, w, q1, hmf, g⟩
            · rw [List.mem_append, List.mem_singleton] at hx
              rcases hx with hx | rfl
              · exact hdev x hx
              · exact (entR_lt q1).2.1
          · refine go_iconst (p := 56) hf_48 rfl rfl ci_0 ?_
            refine go_ret2 hf_48 rfl nl_48 (by first | exact Or.inl rfl | exact Or.inr rfl | assumption) ?_
            have hno : ¬ ∃ l, rdL K A B N (M 37) 12 t [] l := by
              rintro ⟨l, hl⟩
              rcases (hiff l).mp hl with ⟨g, -⟩ | ⟨-, w2, g1, g2, -⟩
              · exact h23 g
              · rw [entR_fun g1 q1] at g2
                exact bI_0.mp h52 g2
            exact ⟨_, _, rfl, rfl, by rw [bI_f hno], fun l hl => absurd ⟨l, hl⟩ hno, hfr⟩
      · refine go_iconst (p := 27) hf_48 rfl rfl ci_1 ?_
        refine go_ret2 hf_48 rfl nl_48 (by first | exact Or.inl rfl | exact Or.inr rfl | assumption) ?_
        refine ⟨_, _, rfl, rfl, ?_, fun l hl => ?_, hfr⟩
        · rw [bI_t ⟨a, (hiff a).mpr (Or.inl ⟨h23, rfl⟩)⟩]
        · rcases (hiff l).mp hl with ⟨-, g⟩ | ⟨g, -⟩
          · rw [g]
            exact ⟨hes, hdev⟩
          · exact absurd h23 g
  refine go_al2 (p := 1) hf_48 rfl rfl ?_
  refine go_iconst (p := 2) hf_48 rfl rfl ci_0 ?_
  refine go_put (p := 5) hf_48 ho_48 rfl fl_2_61 rfl rfl rfl (Or.inl rfl) ?_
  refine go_il1 (p := 6) hf_48 rfl rfl ?_
  refine go_is3 (p := 7) hf_48 rfl rfl ?_
  refine go_iconst (p := 8) hf_48 rfl rfl ci_0 ?_
  refine go_is4 (p := 10) hf_48 rfl rfl ?_
  refine loop 12 0 t [] _ _ (by omega) rfl (fun l => Iff.rfl) ⟨up_s, by simp, fun i w h => by cases h⟩ (fun w h => by cases h) (fun p j h1 h2 => up_o (by omega))
/-- the term is a seal of this state -/
def SL (K A B : Nat → Int32) (N : Nat) (t : Int32) (g ow pw : Nat) (vv : Nat → Nat) (l : List Nat) : Prop := rdAt K N (tailF K B N 1 t) = nI 5 ∧ rdAt B N (tailF K B N 1 t) = partF K A B N t 0 ∧ atm K A N (rdAt A N (tailF K B N 1 t)) = nI 9 ∧ num K A N (partF K A B N (partF K A B N t 0) 0) = nI g ∧ g < 31 ∧ num K A N (partF K A B N (partF K A B N t 0) 1) = nI ow ∧ ow < 3 ∧ hbF K A B N (partF K A B N (partF K A B N t 0) 2) = nI pw ∧ pw < 8 ∧ (∀ j, j < 3 → num K A N (partF K A B N (partF K A B N t 0) (3 + j)) = nI (vv j) ∧ vv j < 31) ∧ rdL K A B N (fun j => nI (vv j)) 12 (tailF K B N 6 (partF K A B N t 0)) [] l
theorem mf_congr {g g' : Nat → Int32} {l : List Nat} {w : Nat} (h : ∀ j, j < 3 → g j = g' j) : mf g l w ↔ mf g' l w := by
  unfold mf kn
  by_cases hw : w / 2048 % 4 < 3
  · rw [h _ hw]
  · simp [hw]
theorem rdL_congr {K A B : Nat → Int32} {N : Nat} {g g' : Nat → Int32} (h : ∀ j, j < 3 → g j = g' j) : ∀ (n : Nat) (t : Int32) (a l : List Nat), rdL K A B N g n t a l → rdL K A B N g' n t a l := by
  intro n
  induction n with
  | zero => intro t a l hl; exact hl
  | succ n ih =>
    intro t a l hl
    rcases hl with hl | ⟨h1, w, h2, h3, h4⟩
    · exact Or.inl hl
    · exact Or.inr ⟨h1, w, h2, (mf_congr h).mp h3, ih _ _ _ h4⟩
theorem rdL_fun {K A B : Nat → Int32} {N : Nat} {g : Nat → Int32} : ∀ (n : Nat) (t : Int32) (a l l' : List Nat), rdL K A B N g n t a l → rdL K A B N g n t a l' → l = l' := by
  intro n
  induction n with
  | zero => intro t a l l' h h'; rw [h.2, h'.2]
  | succ n ih =>
    intro t a l l' h h'
    rcases h with ⟨h1, h2⟩ | ⟨h1, w, h2, h3, h4⟩ <;> rcases h' with ⟨k1, k2⟩ | ⟨k1, w', k2, k3, k4⟩
    · rw [h2, k2]
    · exact absurd h1 k1
    · exact absurd k1 h1
    · rw [entR_fun k2 h2] at k4
      exact ih _ _ _ _ h4 k4
theorem SL_fun {K A B : Nat → Int32} {N : Nat} {t : Int32} {g ow pw g' ow' pw' : Nat} {vv vv' : Nat → Nat} {l l' : List Nat} (h : SL K A B N t g ow pw vv l) (h' : SL K A B N t g' ow' pw' vv' l') : g = g' ∧ ow = ow' ∧ pw = pw' ∧ (∀ j, j < 3 → vv j = vv' j) ∧ l = l' := by
  obtain ⟨-, -, -, a1, a2, a3, a4, a5, a6, a7, a8⟩ := h
  obtain ⟨-, -, -, b1, b2, b3, b4, b5, b6, b7, b8⟩ := h'
  have hv : ∀ j, j < 3 → vv j = vv' j := fun j hj => (nI_eq (by have := (a7 j hj).2; omega) (by have := (b7 j hj).2; omega)).mp ((a7 j hj).1.symm.trans (b7 j hj).1)
  refine ⟨(nI_eq (by omega) (by omega)).mp (a1.symm.trans b1), (nI_eq (by omega) (by omega)).mp (a3.symm.trans b3), (nI_eq (by omega) (by omega)).mp (a5.symm.trans b5), hv, ?_⟩
  exact rdL_fun _ _ _ _ _ a8 (rdL_congr (fun j hj => by rw [hv j hj]) _ _ _ _ b8)
theorem c_read {M : sm_M} {K A B : Nat → Int32} {N : Nat} {t : Int32} (ht : tq M K A B N) : cr 44 4 99 [.ref 8, .ref 1, .int t, .ref 36] M (fun v M1 => (v = some (.int (bI (∃ g ow pw vv l, SL K A B N t g ow pw vv l))) ∧ (∀ g ow pw vv l, SL K A B N t g ow pw vv l → M1 36 0 = nI g ∧ M1 36 1 = nI ow ∧ M1 36 2 = nI pw ∧ (∀ j, j < 3 → M1 37 j = nI (vv j)) ∧ es M1 36 l ∧ ∀ w ∈ l, w / 2048 % 4 < 3) ∧ ∀ p, (p < 36 ∨ 38 < p) → M1 p = M p)) := by
  intro X J rc rs d lw hd hw
  show sm_wp tb_T X tb_ok d lw 44 0 [some (.ref 8), some (.ref 1), some (.int t), some (.ref 36), none, none] [] _ _
  have hno : ∀ (M1 : sm_M), (∀ p, (p < 36 ∨ 38 < p) → M1 p = M p) → (¬ ∃ g ow pw vv l, SL K A B N t g ow pw vv l) → (some (.int (nI 0)) = some (Value.int (bI (∃ g ow pw vv l, SL K A B N t g ow pw vv l))) ∧ (∀ g ow pw vv l, SL K A B N t g ow pw vv l → M1 36 0 = nI g ∧ M1 36 1 = nI ow ∧ M1 36 2 = nI pw ∧ (∀ j, j < 3 → M1 37 j = nI (vv j)) ∧ es M1 36 l ∧ ∀ w ∈ l, w / 2048 % 4 < 3) ∧ ∀ p, (p < 36 ∨ 38 < p) → M1 p = M p) := fun M1 h1 h2 => ⟨by rw [bI_f h2], fun g ow pw vv l h => absurd ⟨g, ow, pw, vv, l, h⟩ h2, h1⟩
  refine go_al1 (p := 1) hf_44 rfl rfl ?_
  refine go_il2 (p := 2) hf_44 rfl rfl ?_
  refine go_iconst (p := 3) hf_44 rfl rfl ci_0 ?_
  refine go_cw3 (p := 6) hf_44 rfl rfl (inv_v ho_44 cl_2_84) (by decide) nl_29 rfl rfl rfl rfl rfl rfl (by omega) (by omega) (p_part ht (by omega)) ?_
  intro v9 M9 h9
  rewrite [h9.1, h9.2]
  clear h9 v9 M9
  simp only [Option.toList, List.cons_append, List.nil_append]
  refine go_is4 (p := 8) hf_44 rfl rfl ?_
  refine go_al1 (p := 9) hf_44 rfl rfl ?_
  refine go_il2 (p := 10) hf_44 rfl rfl ?_
  refine go_iconst (p := 11) hf_44 rfl rfl ci_1 ?_
  refine go_cw3 (p := 14) hf_44 rfl rfl (inv_v ho_44 cl_2_88) (by decide) nl_30 rfl rfl rfl rfl rfl rfl (by omega) (by omega) (p_tail ht (by omega)) ?_
  intro v9 M9 h9
  rewrite [h9.1, h9.2]
  clear h9 v9 M9
  simp only [Option.toList, List.cons_append, List.nil_append]
  refine go_is5 (p := 16) hf_44 rfl rfl ?_
  refine go_al1 (p := 17) hf_44 rfl rfl ?_
  refine go_il5 (p := 19) hf_44 rfl rfl ?_
  refine go_cw2 (p := 22) hf_44 rfl rfl (inv_v ho_44 cl_2_91) (by decide) nl_31 rfl rfl rfl rfl rfl rfl (by omega) (by omega) (p_kindOf ht) ?_
  intro v9 M9 h9
  rewrite [h9.1, h9.2]
  clear h9 v9 M9
  simp only [Option.toList, List.cons_append, List.nil_append]
  refine go_iconst (p := 23) hf_44 rfl rfl ci_5 ?_
  refine go_ic_ne (p := 26) (p2 := 37) hf_44 rfl rfl rfl (fun h23 => ?_) (fun h23 => ?_)
  · refine go_iconst (p := 38) hf_44 rfl rfl ci_0 ?_
    refine go_ret2 hf_44 rfl nl_44 (by first | exact Or.inl rfl | exact Or.inr rfl | assumption) ?_
    refine ⟨_, _, rfl, rfl, hno _ (fun _ _ => rfl) ?_⟩
    rintro ⟨g, ow, pw, vv, l, a1, a2, a3, a4, a5, a6, a7, a8, a9, a10, a11⟩
    exact h23 a1
  · refine go_al1 (p := 27) hf_44 rfl rfl ?_
    refine go_il5 (p := 29) hf_44 rfl rfl ?_
    refine go_cw2 (p := 32) hf_44 rfl rfl (inv_v ho_44 cl_2_94) (by decide) nl_32 rfl rfl rfl rfl rfl rfl (by omega) (by omega) (p_yOf ht) ?_
    intro v9 M9 h9
    rewrite [h9.1, h9.2]
    clear h9 v9 M9
    simp only [Option.toList, List.cons_append, List.nil_append]
    refine go_il4 (p := 34) hf_44 rfl rfl ?_
    refine go_ic_eq (p := 37) (p2 := 39) hf_44 rfl rfl rfl (fun h34 => ?_) (fun h34 => ?_)
    · refine go_al1 (p := 40) hf_44 rfl rfl ?_
      refine go_al1 (p := 41) hf_44 rfl rfl ?_
      refine go_il5 (p := 43) hf_44 rfl rfl ?_
      refine go_cw2 (p := 46) hf_44 rfl rfl (inv_v ho_44 cl_2_97) (by decide) nl_33 rfl rfl rfl rfl rfl rfl (by omega) (by omega) (p_xOf ht) ?_
      intro v9 M9 h9
      rewrite [h9.1, h9.2]
      clear h9 v9 M9
      simp only [Option.toList, List.cons_append, List.nil_append]
      refine go_iconst (p := 47) hf_44 rfl rfl ci_0 ?_
      refine go_cw3 (p := 50) hf_44 rfl rfl (inv_v ho_44 cl_2_100) (by decide) nl_34 rfl rfl rfl rfl rfl rfl (by omega) (by omega) (p_atm ht) ?_
      intro v9 M9 h9
      rewrite [h9.1, h9.2]
      clear h9 v9 M9
      simp only [Option.toList, List.cons_append, List.nil_append]
      refine go_bipush (p := 52) hf_44 rfl rfl cb_9 ?_
      refine go_ic_ne (p := 55) (p2 := 98) hf_44 rfl rfl rfl (fun h52 => ?_) (fun h52 => ?_)
      · refine go_iconst (p := 99) hf_44 rfl rfl ci_0 ?_
        refine go_ret2 hf_44 rfl nl_44 (by first | exact Or.inl rfl | exact Or.inr rfl | assumption) ?_
        refine ⟨_, _, rfl, rfl, hno _ (fun _ _ => rfl) ?_⟩
        rintro ⟨g, ow, pw, vv, l, a1, a2, a3, a4, a5, a6, a7, a8, a9, a10, a11⟩
        exact h52 a3
      · refine go_al1 (p := 56) hf_44 rfl rfl ?_
        refine go_il4 (p := 58) hf_44 rfl rfl ?_
        refine go_al3 (p := 59) hf_44 rfl rfl ?_
        refine go_cw3 (p := 62) hf_44 rfl rfl (inv_s ho_44 cl_2_103) (by decide) nl_45 rfl rfl rfl rfl rfl rfl (by omega) (by omega) (c_readHeader ht) ?_
        rintro v9 M2 ⟨rfl, e2⟩
        have f2 : ∀ p, (p < 36 ∨ 38 < p) → M2 p = M p := fun p hp => by rw [e2]; unfold sm_up; rw [if_neg (by omega), if_neg (by omega), if_neg (by omega)]
        have ht2 : tq M2 K A B N := tq_keep ht (fun p _ _ => f2 p (by omega))
        subst e2
        simp only [Option.toList, List.cons_append, List.nil_append]
        refine go_if_eq (p := 65) (p2 := 98) hf_44 rfl rfl rfl (fun h62 => ?_) (fun h62 => ?_)
        · refine go_iconst (p := 99) hf_44 rfl rfl ci_0 ?_
          refine go_ret2 hf_44 rfl nl_44 (by first | exact Or.inl rfl | exact Or.inr rfl | assumption) ?_
          refine ⟨_, _, rfl, rfl, hno _ f2 ?_⟩
          rintro ⟨g, ow, pw, vv, l, a1, a2, a3, a4, a5, a6, a7, a8, a9, a10, a11⟩
          exact bI_0.mp h62 ⟨⟨g, a5, a4⟩, ⟨ow, a7, a6⟩, ⟨pw, a9, a8⟩⟩
        · refine go_al1 (p := 66) hf_44 rfl rfl ?_
          refine go_il4 (p := 68) hf_44 rfl rfl ?_
          refine go_al3 (p := 69) hf_44 rfl rfl ?_
          refine go_cw3 (p := 72) hf_44 rfl rfl (inv_s ho_44 cl_2_107) (by decide) nl_47 rfl rfl rfl rfl rfl rfl (by omega) (by omega) (c_readVector ht2) ?_
          rintro v9 M3 ⟨rfl, i2, i3⟩
          have f3 : ∀ p, (p < 36 ∨ 38 < p) → M3 p = M p := fun p hp => by rw [i3 p (by omega)]; exact f2 p hp
          have ht3 : tq M3 K A B N := tq_keep ht (fun p _ _ => f3 p (by omega))
          simp only [Option.toList, List.cons_append, List.nil_append]
          refine go_if_eq (p := 75) (p2 := 98) hf_44 rfl rfl rfl (fun h72 => ?_) (fun h72 => ?_)
          · refine go_iconst (p := 99) hf_44 rfl rfl ci_0 ?_
            refine go_ret2 hf_44 rfl nl_44 (by first | exact Or.inl rfl | exact Or.inr rfl | assumption) ?_
            refine ⟨_, _, rfl, rfl, hno _ f3 ?_⟩
            rintro ⟨g, ow, pw, vv, l, a1, a2, a3, a4, a5, a6, a7, a8, a9, a10, a11⟩
            exact bI_0.mp h72 (fun j hj => ⟨vv j, (a10 j hj).2, (a10 j hj).1⟩)
          · refine go_al1 (p := 76) hf_44 rfl rfl ?_
            refine go_al1 (p := 77) hf_44 rfl rfl ?_
            refine go_il4 (p := 79) hf_44 rfl rfl ?_
            refine go_al0 (p := 80) hf_44 rfl rfl ?_
            refine go_getr (p := 83) hf_44 ho_44 rfl fl_2_11 rfl rfl rfl ?_
            refine go_alen (p := 84) hf_44 rfl rfl rfl ?_
            refine go_cw3 (p := 87) hf_44 rfl rfl (inv_v ho_44 cl_2_88) (by decide) nl_30 rfl rfl rfl rfl rfl rfl (by omega) (by omega) (p_tail ht3 (by omega)) ?_
            intro v9 M9 h9
            rewrite [h9.1, h9.2]
            clear h9 v9 M9
            simp only [Option.toList, List.cons_append, List.nil_append]
            refine go_al3 (p := 88) hf_44 rfl rfl ?_
            refine go_cw3 (p := 91) hf_44 rfl rfl (inv_s ho_44 cl_2_110) (by decide) nl_48 rfl rfl rfl rfl rfl rfl (by omega) (by omega) (c_readEntries ht3) ?_
            rintro v9 M4 ⟨rfl, j2, j3⟩
            have f4 : ∀ p, (p < 36 ∨ 38 < p) → M4 p = M p := fun p hp => by rw [← f3 p hp]; funext j; exact j3 p j (by omega) (by omega)
            simp only [Option.toList, List.cons_append, List.nil_append]
            refine go_if_eq (p := 94) (p2 := 98) hf_44 rfl rfl rfl (fun h91 => ?_) (fun h91 => ?_)
            · refine go_iconst (p := 99) hf_44 rfl rfl ci_0 ?_
              refine go_ret2 hf_44 rfl nl_44 (by first | exact Or.inl rfl | exact Or.inr rfl | assumption) ?_
              have e37 : ∀ vv : Nat → Nat, (∀ j, j < 3 → num K A N (partF K A B N (partF K A B N t 0) (3 + j)) = nI (vv j) ∧ vv j < 31) → ∀ j, j < 3 → M3 37 j = nI (vv j) := fun vv hv j hj => by rw [i2 (bI_n0.mp h72) j hj]; exact (hv j hj).1
              refine ⟨_, _, rfl, rfl, hno _ f4 ?_⟩
              rintro ⟨g, ow, pw, vv, l, a1, a2, a3, a4, a5, a6, a7, a8, a9, a10, a11⟩
              exact bI_0.mp h91 ⟨l, rdL_congr (fun j hj => (e37 vv a10 j hj).symm) _ _ _ _ a11⟩
            · refine go_iconst (p := 95) hf_44 rfl rfl ci_1 ?_
              refine go_goto (p2 := 99) hf_44 rfl rfl ?_
              refine go_ret2 hf_44 rfl nl_44 (by first | exact Or.inl rfl | exact Or.inr rfl | assumption) ?_
              have e37 : ∀ vv : Nat → Nat, (∀ j, j < 3 → num K A N (partF K A B N (partF K A B N t 0) (3 + j)) = nI (vv j) ∧ vv j < 31) → ∀ j, j < 3 → M3 37 j = nI (vv j) := fun vv hv j hj => by rw [i2 (bI_n0.mp h72) j hj]; exact (hv j hj).1
              refine ⟨_, _, rfl, rfl, ?_, ?_, f4⟩
              · obtain ⟨⟨g, g1, g2⟩, ⟨ow, o1, o2⟩, ⟨pw, p1, p2⟩⟩ := bI_n0.mp h62
                obtain ⟨l, hl⟩ := bI_n0.mp h91
                have hv := bI_n0.mp h72
                have hv2 : ∀ j, ∃ n, j < 3 → n < 31 ∧ num K A N (partF K A B N (partF K A B N t 0) (3 + j)) = nI n := fun j => by
                  by_cases hj : j < 3
                  · obtain ⟨n, q⟩ := hv j hj
                    exact ⟨n, fun _ => q⟩
                  · exact ⟨0, fun q => absurd q hj⟩
                have hvv : ∀ j, j < 3 → num K A N (partF K A B N (partF K A B N t 0) (3 + j)) = nI (Classical.choose (hv2 j)) ∧ Classical.choose (hv2 j) < 31 := fun j hj => ⟨(Classical.choose_spec (hv2 j) hj).2, (Classical.choose_spec (hv2 j) hj).1⟩
                rw [bI_t ⟨g, ow, pw, fun j => Classical.choose (hv2 j), l, h23, h34, h52, g2, g1, o2, o1, p2, p1, hvv, rdL_congr (fun j hj => e37 _ hvv j hj) _ _ _ _ hl⟩]
              · rintro g ow pw vv l ⟨a1, a2, a3, a4, a5, a6, a7, a8, a9, a10, a11⟩
                have hl : rdL K A B N (M3 37) 12 (tailF K B N 6 (partF K A B N t 0)) [] l := rdL_congr (fun j hj => (e37 vv a10 j hj).symm) _ _ _ _ a11
                obtain ⟨k1, k2⟩ := j2 l hl
                refine ⟨?_, ?_, ?_, fun j hj => ?_, k1, k2⟩
                · rw [j3 _ _ (by omega) (by omega), i3 _ (by omega), up_i (by omega), up_i (by omega), up_s]; exact a4
                · rw [j3 _ _ (by omega) (by omega), i3 _ (by omega), up_i (by omega), up_s]; exact a6
                · rw [j3 _ _ (by omega) (by omega), i3 _ (by omega), up_s]; exact a8
                · rw [j3 _ _ (by omega) (by omega)]; exact e37 vv a10 j hj
    · refine go_iconst (p := 38) hf_44 rfl rfl ci_0 ?_
      refine go_ret2 hf_44 rfl nl_44 (by first | exact Or.inl rfl | exact Or.inr rfl | assumption) ?_
      refine ⟨_, _, rfl, rfl, hno _ (fun _ _ => rfl) ?_⟩
      rintro ⟨g, ow, pw, vv, l, a1, a2, a3, a4, a5, a6, a7, a8, a9, a10, a11⟩
      exact h34 a2
