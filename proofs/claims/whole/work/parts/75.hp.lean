/-! ===== the law's helpers ===== -/
section GH
variable {X : Nat × (Nat → Int32)} {d lw y pc p : Nat} {f : Nat → Option Instr} {L : sm_L} {M : sm_M} {J : sm_J} {rc rs : Nat} {Q : sm_O → sm_H → Prop}
theorem go_hc3 {i : Instr} {k z n rk ci : Nat} {a1 a2 a3 : Value} {S' : List Value} {Q1 : sm_O → sm_H → Prop} (hf : sm_ins tb_T y = f) (hins : f pc = some i) (hp : pc + 3 = p) (hv : sm_inv tb_T y i = some (k, z, 3)) (hk : k = 3 ∨ k = 4) (hn : sm_nL tb_T z = (n, rk, ci)) (hr : sm_isret i = false) (hs : Nat.ble (sm_sum S') 8 = true) (hrc : sm_rcv k ci [a1, a2, a3] (wSH, M, J, rc, rs) = true) (hc1 : [a1, a2, a3].all sm_c1 = true) (hwn : Nat.ble 3 n = true) (ht : tb_thr z [a1, a2, a3] (wSH, M, J, rc, rs) = none) (hD : 1 ≤ d) (hB : 19 + n ≤ lw) (hc : sm_wp tb_T X tb_ok (d - 1) (lw - (19 + n)) z 0 (sm_ent n [a1, a2, a3]) [] (wSH, M, J, rc, rs) Q1) (kv : ∀ v h1, Q1 (.inl v) h1 → ∃ M1 J1 rc1 rs1, h1 = (wSH, M1, J1, rc1, rs1) ∧ sm_wp tb_T X tb_ok d lw y p L (v.toList ++ S') (wSH, M1, J1, rc1, rs1) Q) (kt : ∀ x h1, ¬ Q1 (.inr x) h1) : sm_wp tb_T X tb_ok d lw y pc L (a3 :: a2 :: a1 :: S') (wSH, M, J, rc, rs) Q := by
  subst hp
  obtain ⟨d, rfl⟩ : ∃ d', d = d' + 1 := ⟨d - 1, by omega⟩
  have hn1 : (sm_nL tb_T z).1 = n := by rw [hn]
  have hn3 : (sm_nL tb_T z).2.2 = ci := by rw [hn]
  refine wp_call (w := 3) (by rw [hf]; exact hins) hr hv (by omega) ⟨by simp, Nat.le_of_ble_eq_true hs, by rw [hn3]; exact hrc, by rw [← hc1]; simp [List.all, Bool.and_comm, Bool.and_left_comm, Bool.and_assoc], by rw [hn1]; exact Nat.le_of_ble_eq_true hwn, by rw [hn1]; omega⟩ ht (by rw [hn1]; exact hc) (fun v' h' hq => ?_) (fun x h' hq => absurd hq (kt x h'))
  obtain ⟨M1, J1, rc1, rs1, rfl, hR⟩ := kv v' h' hq
  exact ⟨by unfold sm_ok2; simp, hR⟩
theorem go_hc4 {i : Instr} {k z n rk ci : Nat} {a1 a2 a3 a4 : Value} {S' : List Value} {Q1 : sm_O → sm_H → Prop} (hf : sm_ins tb_T y = f) (hins : f pc = some i) (hp : pc + 3 = p) (hv : sm_inv tb_T y i = some (k, z, 4)) (hk : k = 3 ∨ k = 4) (hn : sm_nL tb_T z = (n, rk, ci)) (hr : sm_isret i = false) (hs : Nat.ble (sm_sum S') 8 = true) (hrc : sm_rcv k ci [a1, a2, a3, a4] (wSH, M, J, rc, rs) = true) (hc1 : [a1, a2, a3, a4].all sm_c1 = true) (hwn : Nat.ble 4 n = true) (ht : tb_thr z [a1, a2, a3, a4] (wSH, M, J, rc, rs) = none) (hD : 1 ≤ d) (hB : 19 + n ≤ lw) (hc : sm_wp tb_T X tb_ok (d - 1) (lw - (19 + n)) z 0 (sm_ent n [a1, a2, a3, a4]) [] (wSH, M, J, rc, rs) Q1) (kv : ∀ v h1, Q1 (.inl v) h1 → ∃ M1 J1 rc1 rs1, h1 = (wSH, M1, J1, rc1, rs1) ∧ sm_wp tb_T X tb_ok d lw y p L (v.toList ++ S') (wSH, M1, J1, rc1, rs1) Q) (kt : ∀ x h1, ¬ Q1 (.inr x) h1) : sm_wp tb_T X tb_ok d lw y pc L (a4 :: a3 :: a2 :: a1 :: S') (wSH, M, J, rc, rs) Q := by
  subst hp
  obtain ⟨d, rfl⟩ : ∃ d', d = d' + 1 := ⟨d - 1, by omega⟩
  have hn1 : (sm_nL tb_T z).1 = n := by rw [hn]
  have hn3 : (sm_nL tb_T z).2.2 = ci := by rw [hn]
  refine wp_call (w := 4) (by rw [hf]; exact hins) hr hv (by omega) ⟨by simp, Nat.le_of_ble_eq_true hs, by rw [hn3]; exact hrc, by rw [← hc1]; simp [List.all, Bool.and_comm, Bool.and_left_comm, Bool.and_assoc], by rw [hn1]; exact Nat.le_of_ble_eq_true hwn, by rw [hn1]; omega⟩ ht (by rw [hn1]; exact hc) (fun v' h' hq => ?_) (fun x h' hq => absurd hq (kt x h'))
  obtain ⟨M1, J1, rc1, rs1, rfl, hR⟩ := kv v' h' hq
  exact ⟨by unfold sm_ok2; simp, hR⟩
theorem go_hc5 {i : Instr} {k z n rk ci : Nat} {a1 a2 a3 a4 a5 : Value} {S' : List Value} {Q1 : sm_O → sm_H → Prop} (hf : sm_ins tb_T y = f) (hins : f pc = some i) (hp : pc + 3 = p) (hv : sm_inv tb_T y i = some (k, z, 5)) (hk : k = 3 ∨ k = 4) (hn : sm_nL tb_T z = (n, rk, ci)) (hr : sm_isret i = false) (hs : Nat.ble (sm_sum S') 8 = true) (hrc : sm_rcv k ci [a1, a2, a3, a4, a5] (wSH, M, J, rc, rs) = true) (hc1 : [a1, a2, a3, a4, a5].all sm_c1 = true) (hwn : Nat.ble 5 n = true) (ht : tb_thr z [a1, a2, a3, a4, a5] (wSH, M, J, rc, rs) = none) (hD : 1 ≤ d) (hB : 19 + n ≤ lw) (hc : sm_wp tb_T X tb_ok (d - 1) (lw - (19 + n)) z 0 (sm_ent n [a1, a2, a3, a4, a5]) [] (wSH, M, J, rc, rs) Q1) (kv : ∀ v h1, Q1 (.inl v) h1 → ∃ M1 J1 rc1 rs1, h1 = (wSH, M1, J1, rc1, rs1) ∧ sm_wp tb_T X tb_ok d lw y p L (v.toList ++ S') (wSH, M1, J1, rc1, rs1) Q) (kt : ∀ x h1, ¬ Q1 (.inr x) h1) : sm_wp tb_T X tb_ok d lw y pc L (a5 :: a4 :: a3 :: a2 :: a1 :: S') (wSH, M, J, rc, rs) Q := by
  subst hp
  obtain ⟨d, rfl⟩ : ∃ d', d = d' + 1 := ⟨d - 1, by omega⟩
  have hn1 : (sm_nL tb_T z).1 = n := by rw [hn]
  have hn3 : (sm_nL tb_T z).2.2 = ci := by rw [hn]
  refine wp_call (w := 5) (by rw [hf]; exact hins) hr hv (by omega) ⟨by simp, Nat.le_of_ble_eq_true hs, by rw [hn3]; exact hrc, by rw [← hc1]; simp [List.all, Bool.and_comm, Bool.and_left_comm, Bool.and_assoc], by rw [hn1]; exact Nat.le_of_ble_eq_true hwn, by rw [hn1]; omega⟩ ht (by rw [hn1]; exact hc) (fun v' h' hq => ?_) (fun x h' hq => absurd hq (kt x h'))
  obtain ⟨M1, J1, rc1, rs1, rfl, hR⟩ := kv v' h' hq
  exact ⟨by unfold sm_ok2; simp, hR⟩
end GH
theorem h_unlock {M : sm_M} {a0 a1 : Int32} {R : Option Value → sm_M → Prop} {T : Nat → Prop} (hc : crt 18 9 330 [.ref 0, .int a0, .int a1] M R T) (hu : ∀ v M1, R v M1 → ∃ u, v = some (.int u)) (hT : ∀ x, T x → x < 1) : ∀ (X : Nat × (Nat → Int32)) (J : sm_J) (rc rs d lw : Nat), 10 ≤ d → 356 ≤ lw → 1 ≤ rc → 6 ≤ rs → sm_wp tb_T X tb_ok d lw 131 0 (sm_ent 5 [.ref 0, .int a0, .int a1, .ref 62]) [] (wSH, M, J, rc, rs) (fun o h' => (∃ u M1 w, o = .inl (some (.int (nI 0))) ∧ h' = (wSH, M1, sm_uj J 62 0 w, rc, rs) ∧ (w = Int64.ofNat 0 ∧ u = 0 ∨ w = Int64.ofNat 1 ∧ ¬ u = 0) ∧ R (some (.int u)) M1) ∨ (∃ x, T x ∧ o = .inl (some (.int (nI (x + 1)))) ∧ h' = (wSH, M, J, rc - 1, rs - 6))) := by
  intro X J rc rs d lw hd hw h1 h6
  show sm_wp tb_T X tb_ok d lw 131 0 [some (.ref 0), some (.int a0), some (.int a1), some (.ref 62), none] [] _ _
  refine go_al3 (p := 1) hf_131 rfl rfl ?_
  refine go_iconst (p := 2) hf_131 rfl rfl ci_0 ?_
  refine go_al0 (p := 3) hf_131 rfl rfl ?_
  refine go_il1 (p := 4) hf_131 rfl rfl ?_
  refine go_il2 (p := 5) hf_131 rfl rfl ?_
  refine go_ct3 (p := 8) hf_131 rfl rfl (inv_v ho_131 cl_8_7) (by decide) nl_18 rfl rfl rfl rfl rfl rfl (by omega) (by omega) h1 h6 hc (fun v M1 hR => ?_) (fun x hx => ?_)
  · obtain ⟨u, rfl⟩ := hu v M1 hR
    simp only [Option.toList, List.cons_append, List.nil_append]
    refine go_if_eq (p := 11) (p2 := 15) hf_131 rfl rfl rfl (fun h8 => ?_) (fun h8 => ?_)
    · refine go_lconst (p := 16) hf_131 rfl rfl ?_
      refine go_last (p := 17) hf_131 rfl rfl (by first | with_reducible assumption | rfl) rfl rfl (by decide) ?_
      refine go_goto (p2 := 24) hf_131 rfl rfl ?_
      refine go_iconst (p := 25) hf_131 rfl rfl ci_0 ?_
      refine go_ret1 hf_131 rfl nl_131 ?_
      exact Or.inl ⟨u, M1, _, rfl, rfl, Or.inl ⟨rfl, h8⟩, hR⟩
    · refine go_lconst (p := 12) hf_131 rfl rfl ?_
      refine go_goto (p2 := 16) hf_131 rfl rfl ?_
      refine go_last (p := 17) hf_131 rfl rfl (by first | with_reducible assumption | rfl) rfl rfl (by decide) ?_
      refine go_goto (p2 := 24) hf_131 rfl rfl ?_
      refine go_iconst (p := 25) hf_131 rfl rfl ci_0 ?_
      refine go_ret1 hf_131 rfl nl_131 ?_
      exact Or.inl ⟨u, M1, _, rfl, rfl, Or.inr ⟨rfl, h8⟩, hR⟩
  · have hlt := hT x hx
    obtain rfl : x = 0 := by omega
    refine ⟨22, 4, rfl, ?_⟩
    show sm_wp tb_T X tb_ok d lw 131 22 [some (.ref 0), some (.int a0), some (.int a1), some (.ref 62), none] [] _ _
    refine go_iconst (p := 23) hf_131 rfl rfl ci_1 ?_
    refine go_ret1 hf_131 rfl nl_131 ?_
    exact Or.inr ⟨0, hx, rfl, rfl⟩
theorem h_lock {M : sm_M} {a0 : Int32} {R : Option Value → sm_M → Prop} {T : Nat → Prop} (hc : crt 20 9 330 [.ref 0, .int a0] M R T) (hu : ∀ v M1, R v M1 → ∃ u, v = some (.int u)) (hT : ∀ x, T x → x < 1) : ∀ (X : Nat × (Nat → Int32)) (J : sm_J) (rc rs d lw : Nat), 10 ≤ d → 356 ≤ lw → 1 ≤ rc → 6 ≤ rs → sm_wp tb_T X tb_ok d lw 132 0 (sm_ent 4 [.ref 0, .int a0, .ref 62]) [] (wSH, M, J, rc, rs) (fun o h' => (∃ u M1 w, o = .inl (some (.int (nI 0))) ∧ h' = (wSH, M1, sm_uj J 62 0 w, rc, rs) ∧ (w = Int64.ofNat 0 ∧ u = 0 ∨ w = Int64.ofNat 1 ∧ ¬ u = 0) ∧ R (some (.int u)) M1) ∨ (∃ x, T x ∧ o = .inl (some (.int (nI (x + 1)))) ∧ h' = (wSH, M, J, rc - 1, rs - 6))) := by
  intro X J rc rs d lw hd hw h1 h6
  show sm_wp tb_T X tb_ok d lw 132 0 [some (.ref 0), some (.int a0), some (.ref 62), none] [] _ _
  refine go_al2 (p := 1) hf_132 rfl rfl ?_
  refine go_iconst (p := 2) hf_132 rfl rfl ci_0 ?_
  refine go_al0 (p := 3) hf_132 rfl rfl ?_
  refine go_il1 (p := 4) hf_132 rfl rfl ?_
  refine go_ct2 (p := 7) hf_132 rfl rfl (inv_v ho_132 cl_8_15) (by decide) nl_20 rfl rfl rfl rfl rfl rfl (by omega) (by omega) h1 h6 hc (fun v M1 hR => ?_) (fun x hx => ?_)
  · obtain ⟨u, rfl⟩ := hu v M1 hR
    simp only [Option.toList, List.cons_append, List.nil_append]
    refine go_if_eq (p := 10) (p2 := 14) hf_132 rfl rfl rfl (fun h7 => ?_) (fun h7 => ?_)
    · refine go_lconst (p := 15) hf_132 rfl rfl ?_
      refine go_last (p := 16) hf_132 rfl rfl (by first | with_reducible assumption | rfl) rfl rfl (by decide) ?_
      refine go_goto (p2 := 22) hf_132 rfl rfl ?_
      refine go_iconst (p := 23) hf_132 rfl rfl ci_0 ?_
      refine go_ret1 hf_132 rfl nl_132 ?_
      exact Or.inl ⟨u, M1, _, rfl, rfl, Or.inl ⟨rfl, h7⟩, hR⟩
    · refine go_lconst (p := 11) hf_132 rfl rfl ?_
      refine go_goto (p2 := 15) hf_132 rfl rfl ?_
      refine go_last (p := 16) hf_132 rfl rfl (by first | with_reducible assumption | rfl) rfl rfl (by decide) ?_
      refine go_goto (p2 := 22) hf_132 rfl rfl ?_
      refine go_iconst (p := 23) hf_132 rfl rfl ci_0 ?_
      refine go_ret1 hf_132 rfl nl_132 ?_
      exact Or.inl ⟨u, M1, _, rfl, rfl, Or.inr ⟨rfl, h7⟩, hR⟩
  · have hlt := hT x hx
    obtain rfl : x = 0 := by omega
    refine ⟨20, 3, rfl, ?_⟩
    show sm_wp tb_T X tb_ok d lw 132 20 [some (.ref 0), some (.int a0), some (.ref 62), none] [] _ _
    refine go_iconst (p := 21) hf_132 rfl rfl ci_1 ?_
    refine go_ret1 hf_132 rfl nl_132 ?_
    exact Or.inr ⟨0, hx, rfl, rfl⟩
theorem h_put {M : sm_M} {a0 a1 a2 : Int32} {R : Option Value → sm_M → Prop} {T : Nat → Prop} (hc : crt 21 9 330 [.ref 0, .int a0, .int a1, .int a2] M R T) (hu : ∀ v M1, R v M1 → ∃ u, v = some (.int u)) (hT : ∀ x, T x → x < 2) : ∀ (X : Nat × (Nat → Int32)) (J : sm_J) (rc rs d lw : Nat), 10 ≤ d → 356 ≤ lw → 1 ≤ rc → 6 ≤ rs → sm_wp tb_T X tb_ok d lw 133 0 (sm_ent 6 [.ref 0, .int a0, .int a1, .int a2, .ref 62]) [] (wSH, M, J, rc, rs) (fun o h' => (∃ u M1 w, o = .inl (some (.int (nI 0))) ∧ h' = (wSH, M1, sm_uj J 62 0 w, rc, rs) ∧ (w = u.toInt64) ∧ R (some (.int u)) M1) ∨ (∃ x, T x ∧ o = .inl (some (.int (nI (x + 1)))) ∧ h' = (wSH, M, J, rc - 1, rs - 6))) := by
  intro X J rc rs d lw hd hw h1 h6
  show sm_wp tb_T X tb_ok d lw 133 0 [some (.ref 0), some (.int a0), some (.int a1), some (.int a2), some (.ref 62), none] [] _ _
  refine go_al4 (p := 2) hf_133 rfl rfl ?_
  refine go_iconst (p := 3) hf_133 rfl rfl ci_0 ?_
  refine go_al0 (p := 4) hf_133 rfl rfl ?_
  refine go_il1 (p := 5) hf_133 rfl rfl ?_
  refine go_il2 (p := 6) hf_133 rfl rfl ?_
  refine go_il3 (p := 7) hf_133 rfl rfl ?_
  refine go_ct4 (p := 10) hf_133 rfl rfl (inv_v ho_133 cl_8_19) (by decide) nl_21 rfl rfl rfl rfl rfl rfl (by omega) (by omega) h1 h6 hc (fun v M1 hR => ?_) (fun x hx => ?_)
  · obtain ⟨u, rfl⟩ := hu v M1 hR
    simp only [Option.toList, List.cons_append, List.nil_append]
    refine go_i2l (p := 11) hf_133 rfl rfl ?_
    refine go_last (p := 12) hf_133 rfl rfl (by first | with_reducible assumption | rfl) rfl rfl (by decide) ?_
    refine go_goto (p2 := 23) hf_133 rfl rfl ?_
    refine go_iconst (p := 24) hf_133 rfl rfl ci_0 ?_
    refine go_ret1 hf_133 rfl nl_133 ?_
    exact Or.inl ⟨u, M1, _, rfl, rfl, rfl, hR⟩
  · have hlt := hT x hx
    by_cases ex : x = 0
    · subst ex
      refine ⟨17, 5, rfl, ?_⟩
      show sm_wp tb_T X tb_ok d lw 133 17 [some (.ref 0), some (.int a0), some (.int a1), some (.int a2), some (.ref 62), none] [] _ _
      refine go_iconst (p := 18) hf_133 rfl rfl ci_1 ?_
      refine go_ret1 hf_133 rfl nl_133 ?_
      exact Or.inr ⟨0, hx, rfl, rfl⟩
    · obtain rfl : x = 1 := by omega
      refine ⟨21, 5, rfl, ?_⟩
      show sm_wp tb_T X tb_ok d lw 133 21 [some (.ref 0), some (.int a0), some (.int a1), some (.int a2), some (.ref 62), none] [] _ _
      refine go_iconst (p := 22) hf_133 rfl rfl ci_2 ?_
      refine go_ret1 hf_133 rfl nl_133 ?_
      exact Or.inr ⟨1, hx, rfl, rfl⟩
theorem h_erase {M : sm_M} {a0 a1 : Int32} {R : Option Value → sm_M → Prop} {T : Nat → Prop} (hc : crt 23 9 330 [.ref 0, .int a0, .int a1] M R T) (hu : ∀ v M1, R v M1 → ∃ u, v = some (.int u)) (hT : ∀ x, T x → x < 2) : ∀ (X : Nat × (Nat → Int32)) (J : sm_J) (rc rs d lw : Nat), 10 ≤ d → 356 ≤ lw → 1 ≤ rc → 6 ≤ rs → sm_wp tb_T X tb_ok d lw 134 0 (sm_ent 5 [.ref 0, .int a0, .int a1, .ref 62]) [] (wSH, M, J, rc, rs) (fun o h' => (∃ u M1 w, o = .inl (some (.int (nI 0))) ∧ h' = (wSH, M1, sm_uj J 62 0 w, rc, rs) ∧ (w = u.toInt64) ∧ R (some (.int u)) M1) ∨ (∃ x, T x ∧ o = .inl (some (.int (nI (x + 1)))) ∧ h' = (wSH, M, J, rc - 1, rs - 6))) := by
  intro X J rc rs d lw hd hw h1 h6
  show sm_wp tb_T X tb_ok d lw 134 0 [some (.ref 0), some (.int a0), some (.int a1), some (.ref 62), none] [] _ _
  refine go_al3 (p := 1) hf_134 rfl rfl ?_
  refine go_iconst (p := 2) hf_134 rfl rfl ci_0 ?_
  refine go_al0 (p := 3) hf_134 rfl rfl ?_
  refine go_il1 (p := 4) hf_134 rfl rfl ?_
  refine go_il2 (p := 5) hf_134 rfl rfl ?_
  refine go_ct3 (p := 8) hf_134 rfl rfl (inv_v ho_134 cl_8_25) (by decide) nl_23 rfl rfl rfl rfl rfl rfl (by omega) (by omega) h1 h6 hc (fun v M1 hR => ?_) (fun x hx => ?_)
  · obtain ⟨u, rfl⟩ := hu v M1 hR
    simp only [Option.toList, List.cons_append, List.nil_append]
    refine go_i2l (p := 9) hf_134 rfl rfl ?_
    refine go_last (p := 10) hf_134 rfl rfl (by first | with_reducible assumption | rfl) rfl rfl (by decide) ?_
    refine go_goto (p2 := 21) hf_134 rfl rfl ?_
    refine go_iconst (p := 22) hf_134 rfl rfl ci_0 ?_
    refine go_ret1 hf_134 rfl nl_134 ?_
    exact Or.inl ⟨u, M1, _, rfl, rfl, rfl, hR⟩
  · have hlt := hT x hx
    by_cases ex : x = 0
    · subst ex
      refine ⟨15, 4, rfl, ?_⟩
      show sm_wp tb_T X tb_ok d lw 134 15 [some (.ref 0), some (.int a0), some (.int a1), some (.ref 62), none] [] _ _
      refine go_iconst (p := 16) hf_134 rfl rfl ci_1 ?_
      refine go_ret1 hf_134 rfl nl_134 ?_
      exact Or.inr ⟨0, hx, rfl, rfl⟩
    · obtain rfl : x = 1 := by omega
      refine ⟨19, 4, rfl, ?_⟩
      show sm_wp tb_T X tb_ok d lw 134 19 [some (.ref 0), some (.int a0), some (.int a1), some (.ref 62), none] [] _ _
      refine go_iconst (p := 20) hf_134 rfl rfl ci_2 ?_
      refine go_ret1 hf_134 rfl nl_134 ?_
      exact Or.inr ⟨1, hx, rfl, rfl⟩
theorem h_get {M : sm_M} {a0 a1 a2 : Int32} {R : Option Value → sm_M → Prop} {T : Nat → Prop} (hc : crt 24 9 330 [.ref 0, .int a0, .int a1, .int a2] M R T) (hu : ∀ v M1, R v M1 → ∃ u, v = some (.int u)) (hT : ∀ x, T x → x < 2) : ∀ (X : Nat × (Nat → Int32)) (J : sm_J) (rc rs d lw : Nat), 10 ≤ d → 356 ≤ lw → 1 ≤ rc → 6 ≤ rs → sm_wp tb_T X tb_ok d lw 135 0 (sm_ent 6 [.ref 0, .int a0, .int a1, .int a2, .ref 62]) [] (wSH, M, J, rc, rs) (fun o h' => (∃ u M1 w, o = .inl (some (.int (nI 0))) ∧ h' = (wSH, M1, sm_uj J 62 0 w, rc, rs) ∧ (w = u.toInt64) ∧ R (some (.int u)) M1) ∨ (∃ x, T x ∧ o = .inl (some (.int (nI (x + 1)))) ∧ h' = (wSH, M, J, rc - 1, rs - 6))) := by
  intro X J rc rs d lw hd hw h1 h6
  show sm_wp tb_T X tb_ok d lw 135 0 [some (.ref 0), some (.int a0), some (.int a1), some (.int a2), some (.ref 62), none] [] _ _
  refine go_al4 (p := 2) hf_135 rfl rfl ?_
  refine go_iconst (p := 3) hf_135 rfl rfl ci_0 ?_
  refine go_al0 (p := 4) hf_135 rfl rfl ?_
  refine go_il1 (p := 5) hf_135 rfl rfl ?_
  refine go_il2 (p := 6) hf_135 rfl rfl ?_
  refine go_il3 (p := 7) hf_135 rfl rfl ?_
  refine go_ct4 (p := 10) hf_135 rfl rfl (inv_v ho_135 cl_8_29) (by decide) nl_24 rfl rfl rfl rfl rfl rfl (by omega) (by omega) h1 h6 hc (fun v M1 hR => ?_) (fun x hx => ?_)
  · obtain ⟨u, rfl⟩ := hu v M1 hR
    simp only [Option.toList, List.cons_append, List.nil_append]
    refine go_i2l (p := 11) hf_135 rfl rfl ?_
    refine go_last (p := 12) hf_135 rfl rfl (by first | with_reducible assumption | rfl) rfl rfl (by decide) ?_
    refine go_goto (p2 := 23) hf_135 rfl rfl ?_
    refine go_iconst (p := 24) hf_135 rfl rfl ci_0 ?_
    refine go_ret1 hf_135 rfl nl_135 ?_
    exact Or.inl ⟨u, M1, _, rfl, rfl, rfl, hR⟩
  · have hlt := hT x hx
    by_cases ex : x = 0
    · subst ex
      refine ⟨17, 5, rfl, ?_⟩
      show sm_wp tb_T X tb_ok d lw 135 17 [some (.ref 0), some (.int a0), some (.int a1), some (.int a2), some (.ref 62), none] [] _ _
      refine go_iconst (p := 18) hf_135 rfl rfl ci_1 ?_
      refine go_ret1 hf_135 rfl nl_135 ?_
      exact Or.inr ⟨0, hx, rfl, rfl⟩
    · obtain rfl : x = 1 := by omega
      refine ⟨21, 5, rfl, ?_⟩
      show sm_wp tb_T X tb_ok d lw 135 21 [some (.ref 0), some (.int a0), some (.int a1), some (.int a2), some (.ref 62), none] [] _ _
      refine go_iconst (p := 22) hf_135 rfl rfl ci_2 ?_
      refine go_ret1 hf_135 rfl nl_135 ?_
      exact Or.inr ⟨1, hx, rfl, rfl⟩
theorem h_change {M : sm_M} {a0 a1 : Int32} {R : Option Value → sm_M → Prop} {T : Nat → Prop} (hc : crt 25 9 330 [.ref 0, .int a0, .int a1] M R T) (hu : ∀ v M1, R v M1 → ∃ u, v = some (.int u)) (hT : ∀ x, T x → x < 2) : ∀ (X : Nat × (Nat → Int32)) (J : sm_J) (rc rs d lw : Nat), 10 ≤ d → 356 ≤ lw → 1 ≤ rc → 6 ≤ rs → sm_wp tb_T X tb_ok d lw 136 0 (sm_ent 5 [.ref 0, .int a0, .int a1, .ref 62]) [] (wSH, M, J, rc, rs) (fun o h' => (∃ u M1 w, o = .inl (some (.int (nI 0))) ∧ h' = (wSH, M1, sm_uj J 62 0 w, rc, rs) ∧ (w = u.toInt64) ∧ R (some (.int u)) M1) ∨ (∃ x, T x ∧ o = .inl (some (.int (nI (x + 1)))) ∧ h' = (wSH, M, J, rc - 1, rs - 6))) := by
  intro X J rc rs d lw hd hw h1 h6
  show sm_wp tb_T X tb_ok d lw 136 0 [some (.ref 0), some (.int a0), some (.int a1), some (.ref 62), none] [] _ _
  refine go_al3 (p := 1) hf_136 rfl rfl ?_
  refine go_iconst (p := 2) hf_136 rfl rfl ci_0 ?_
  refine go_al0 (p := 3) hf_136 rfl rfl ?_
  refine go_il1 (p := 4) hf_136 rfl rfl ?_
  refine go_il2 (p := 5) hf_136 rfl rfl ?_
  refine go_ct3 (p := 8) hf_136 rfl rfl (inv_v ho_136 cl_8_32) (by decide) nl_25 rfl rfl rfl rfl rfl rfl (by omega) (by omega) h1 h6 hc (fun v M1 hR => ?_) (fun x hx => ?_)
  · obtain ⟨u, rfl⟩ := hu v M1 hR
    simp only [Option.toList, List.cons_append, List.nil_append]
    refine go_i2l (p := 9) hf_136 rfl rfl ?_
    refine go_last (p := 10) hf_136 rfl rfl (by first | with_reducible assumption | rfl) rfl rfl (by decide) ?_
    refine go_goto (p2 := 21) hf_136 rfl rfl ?_
    refine go_iconst (p := 22) hf_136 rfl rfl ci_0 ?_
    refine go_ret1 hf_136 rfl nl_136 ?_
    exact Or.inl ⟨u, M1, _, rfl, rfl, rfl, hR⟩
  · have hlt := hT x hx
    by_cases ex : x = 0
    · subst ex
      refine ⟨15, 4, rfl, ?_⟩
      show sm_wp tb_T X tb_ok d lw 136 15 [some (.ref 0), some (.int a0), some (.int a1), some (.ref 62), none] [] _ _
      refine go_iconst (p := 16) hf_136 rfl rfl ci_1 ?_
      refine go_ret1 hf_136 rfl nl_136 ?_
      exact Or.inr ⟨0, hx, rfl, rfl⟩
    · obtain rfl : x = 1 := by omega
      refine ⟨19, 4, rfl, ?_⟩
      show sm_wp tb_T X tb_ok d lw 136 19 [some (.ref 0), some (.int a0), some (.int a1), some (.ref 62), none] [] _ _
      refine go_iconst (p := 20) hf_136 rfl rfl ci_2 ?_
      refine go_ret1 hf_136 rfl nl_136 ?_
      exact Or.inr ⟨1, hx, rfl, rfl⟩
theorem h_pull {M : sm_M} {a0 : Int32} {R : Option Value → sm_M → Prop} {T : Nat → Prop} (hc : crt 26 9 330 [.ref 0, .int a0] M R T) (hu : ∀ v M1, R v M1 → ∃ u, v = some (.int u)) (hT : ∀ x, T x → x < 2) : ∀ (X : Nat × (Nat → Int32)) (J : sm_J) (rc rs d lw : Nat), 10 ≤ d → 356 ≤ lw → 1 ≤ rc → 6 ≤ rs → sm_wp tb_T X tb_ok d lw 137 0 (sm_ent 4 [.ref 0, .int a0, .ref 62]) [] (wSH, M, J, rc, rs) (fun o h' => (∃ u M1 w, o = .inl (some (.int (nI 0))) ∧ h' = (wSH, M1, sm_uj J 62 0 w, rc, rs) ∧ (w = Int64.ofNat 0 ∧ u = 0 ∨ w = Int64.ofNat 1 ∧ ¬ u = 0) ∧ R (some (.int u)) M1) ∨ (∃ x, T x ∧ o = .inl (some (.int (nI (x + 1)))) ∧ h' = (wSH, M, J, rc - 1, rs - 6))) := by
  intro X J rc rs d lw hd hw h1 h6
  show sm_wp tb_T X tb_ok d lw 137 0 [some (.ref 0), some (.int a0), some (.ref 62), none] [] _ _
  refine go_al2 (p := 1) hf_137 rfl rfl ?_
  refine go_iconst (p := 2) hf_137 rfl rfl ci_0 ?_
  refine go_al0 (p := 3) hf_137 rfl rfl ?_
  refine go_il1 (p := 4) hf_137 rfl rfl ?_
  refine go_ct2 (p := 7) hf_137 rfl rfl (inv_v ho_137 cl_8_35) (by decide) nl_26 rfl rfl rfl rfl rfl rfl (by omega) (by omega) h1 h6 hc (fun v M1 hR => ?_) (fun x hx => ?_)
  · obtain ⟨u, rfl⟩ := hu v M1 hR
    simp only [Option.toList, List.cons_append, List.nil_append]
    refine go_if_eq (p := 10) (p2 := 14) hf_137 rfl rfl rfl (fun h7 => ?_) (fun h7 => ?_)
    · refine go_lconst (p := 15) hf_137 rfl rfl ?_
      refine go_last (p := 16) hf_137 rfl rfl (by first | with_reducible assumption | rfl) rfl rfl (by decide) ?_
      refine go_goto (p2 := 25) hf_137 rfl rfl ?_
      refine go_iconst (p := 26) hf_137 rfl rfl ci_0 ?_
      refine go_ret1 hf_137 rfl nl_137 ?_
      exact Or.inl ⟨u, M1, _, rfl, rfl, Or.inl ⟨rfl, h7⟩, hR⟩
    · refine go_lconst (p := 11) hf_137 rfl rfl ?_
      refine go_goto (p2 := 15) hf_137 rfl rfl ?_
      refine go_last (p := 16) hf_137 rfl rfl (by first | with_reducible assumption | rfl) rfl rfl (by decide) ?_
      refine go_goto (p2 := 25) hf_137 rfl rfl ?_
      refine go_iconst (p := 26) hf_137 rfl rfl ci_0 ?_
      refine go_ret1 hf_137 rfl nl_137 ?_
      exact Or.inl ⟨u, M1, _, rfl, rfl, Or.inr ⟨rfl, h7⟩, hR⟩
  · have hlt := hT x hx
    by_cases ex : x = 0
    · subst ex
      refine ⟨20, 3, rfl, ?_⟩
      show sm_wp tb_T X tb_ok d lw 137 20 [some (.ref 0), some (.int a0), some (.ref 62), none] [] _ _
      refine go_iconst (p := 21) hf_137 rfl rfl ci_1 ?_
      refine go_ret1 hf_137 rfl nl_137 ?_
      exact Or.inr ⟨0, hx, rfl, rfl⟩
    · obtain rfl : x = 1 := by omega
      refine ⟨23, 3, rfl, ?_⟩
      show sm_wp tb_T X tb_ok d lw 137 23 [some (.ref 0), some (.int a0), some (.ref 62), none] [] _ _
      refine go_iconst (p := 24) hf_137 rfl rfl ci_2 ?_
      refine go_ret1 hf_137 rfl nl_137 ?_
      exact Or.inr ⟨1, hx, rfl, rfl⟩
theorem h_push {M : sm_M} {a0 : Int32} {R : Option Value → sm_M → Prop} {T : Nat → Prop} (hc : crt 27 9 330 [.ref 0, .int a0] M R T) (hu : ∀ v M1, R v M1 → ∃ u, v = some (.int u)) (hT : ∀ x, T x → x < 2) : ∀ (X : Nat × (Nat → Int32)) (J : sm_J) (rc rs d lw : Nat), 10 ≤ d → 356 ≤ lw → 1 ≤ rc → 6 ≤ rs → sm_wp tb_T X tb_ok d lw 138 0 (sm_ent 4 [.ref 0, .int a0, .ref 62]) [] (wSH, M, J, rc, rs) (fun o h' => (∃ u M1 w, o = .inl (some (.int (nI 0))) ∧ h' = (wSH, M1, sm_uj J 62 0 w, rc, rs) ∧ (w = u.toInt64) ∧ R (some (.int u)) M1) ∨ (∃ x, T x ∧ o = .inl (some (.int (nI (x + 1)))) ∧ h' = (wSH, M, J, rc - 1, rs - 6))) := by
  intro X J rc rs d lw hd hw h1 h6
  show sm_wp tb_T X tb_ok d lw 138 0 [some (.ref 0), some (.int a0), some (.ref 62), none] [] _ _
  refine go_al2 (p := 1) hf_138 rfl rfl ?_
  refine go_iconst (p := 2) hf_138 rfl rfl ci_0 ?_
  refine go_al0 (p := 3) hf_138 rfl rfl ?_
  refine go_il1 (p := 4) hf_138 rfl rfl ?_
  refine go_ct2 (p := 7) hf_138 rfl rfl (inv_v ho_138 cl_8_38) (by decide) nl_27 rfl rfl rfl rfl rfl rfl (by omega) (by omega) h1 h6 hc (fun v M1 hR => ?_) (fun x hx => ?_)
  · obtain ⟨u, rfl⟩ := hu v M1 hR
    simp only [Option.toList, List.cons_append, List.nil_append]
    refine go_i2l (p := 8) hf_138 rfl rfl ?_
    refine go_last (p := 9) hf_138 rfl rfl (by first | with_reducible assumption | rfl) rfl rfl (by decide) ?_
    refine go_goto (p2 := 18) hf_138 rfl rfl ?_
    refine go_iconst (p := 19) hf_138 rfl rfl ci_0 ?_
    refine go_ret1 hf_138 rfl nl_138 ?_
    exact Or.inl ⟨u, M1, _, rfl, rfl, rfl, hR⟩
  · have hlt := hT x hx
    by_cases ex : x = 0
    · subst ex
      refine ⟨13, 3, rfl, ?_⟩
      show sm_wp tb_T X tb_ok d lw 138 13 [some (.ref 0), some (.int a0), some (.ref 62), none] [] _ _
      refine go_iconst (p := 14) hf_138 rfl rfl ci_1 ?_
      refine go_ret1 hf_138 rfl nl_138 ?_
      exact Or.inr ⟨0, hx, rfl, rfl⟩
    · obtain rfl : x = 1 := by omega
      refine ⟨16, 3, rfl, ?_⟩
      show sm_wp tb_T X tb_ok d lw 138 16 [some (.ref 0), some (.int a0), some (.ref 62), none] [] _ _
      refine go_iconst (p := 17) hf_138 rfl rfl ci_2 ?_
      refine go_ret1 hf_138 rfl nl_138 ?_
      exact Or.inr ⟨1, hx, rfl, rfl⟩
