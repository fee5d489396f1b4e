/-! ===== the class's calls ===== -/
def dC (M : sm_M) (q g ow pw : Nat) (vv : Nat → Nat) (l : List Nat) : Prop := M (q + 1) 0 = nI g ∧ M (q + 1) 1 = nI ow ∧ M (q + 1) 2 = nI pw ∧ (∀ j, j < 3 → M (q + 1 + 1) j = nI (vv j)) ∧ es M (q + 1) l
theorem fo_fi {it : Nat} : ∀ (l : List Nat), (fo it l).length + (fi it l).length = l.length := by
  intro l
  induction l with
  | nil => rfl
  | cons x l ih =>
    unfold fo fi at ih ⊢
    by_cases h : x / 8192 == it
    · rw [List.filter_cons_of_neg (by simp [h]), List.filter_cons_of_pos (by exact h), List.length_cons, List.length_cons]; omega
    · rw [List.filter_cons_of_pos (by simp [h]), List.filter_cons_of_neg (by exact h), List.length_cons, List.length_cons]; omega
theorem t_unlock {M : sm_M} {a0 a1 : Int32} (hbad : ¬ ((∃ n, n < 3 ∧ a0 = nI n) ∧ (∃ n, n < 8 ∧ a1 = nI n))) : crt 18 7 120 [.ref 0, .int a0, .int a1] M (fun _ _ => False) (fun x => x = 0) := by
  intro X J rc rs d lw hd hw h1 h6
  show sm_wp tb_T X tb_ok d lw 18 0 [some (.ref 0), some (.int a0), some (.int a1), none] [] _ _
  refine go_il1 (p := 1) hf_18 rfl rfl ?_
  refine go_iconst (p := 2) hf_18 rfl rfl ci_3 ?_
  refine go_cw2 (p := 5) hf_18 rfl rfl (inv_s ho_18 cl_0_48) (by decide) nl_2 rfl rfl rfl rfl rfl rfl (by omega) (by omega) (c_isBelow) ?_
  intro v9 M9 h9
  rewrite [h9.1, h9.2]
  clear h9 v9 M9
  simp only [Option.toList, List.cons_append, List.nil_append]
  refine go_if_eq (p := 8) (p2 := 21) hf_18 rfl rfl rfl (fun h5 => ?_) (fun h5 => ?_)
  · refine go_iconst (p := 22) hf_18 rfl rfl ci_0 ?_
    refine go_thr1 hf_18 rfl (inv_s ho_18 cl_0_52) (by decide) nl_19 rfl rfl rfl rfl rfl (thr19 rfl) h1 h6 (by omega) (by omega) rfl ?_
    exact Or.inr ⟨_, rfl, rfl, rfl⟩
  · refine go_il2 (p := 9) hf_18 rfl rfl ?_
    refine go_bipush (p := 11) hf_18 rfl rfl cb_8 ?_
    refine go_cw2 (p := 14) hf_18 rfl rfl (inv_s ho_18 cl_0_48) (by decide) nl_2 rfl rfl rfl rfl rfl rfl (by omega) (by omega) (c_isBelow) ?_
    intro v9 M9 h9
    rewrite [h9.1, h9.2]
    clear h9 v9 M9
    simp only [Option.toList, List.cons_append, List.nil_append]
    refine go_if_eq (p := 17) (p2 := 21) hf_18 rfl rfl rfl (fun h14 => ?_) (fun h14 => ?_)
    · refine go_iconst (p := 22) hf_18 rfl rfl ci_0 ?_
      refine go_thr1 hf_18 rfl (inv_s ho_18 cl_0_52) (by decide) nl_19 rfl rfl rfl rfl rfl (thr19 rfl) h1 h6 (by omega) (by omega) rfl ?_
      exact Or.inr ⟨_, rfl, rfl, rfl⟩
    · refine go_iconst (p := 18) hf_18 rfl rfl ci_1 ?_
      refine go_goto (p2 := 22) hf_18 rfl rfl ?_
      exact absurd ⟨(below_iff (by omega)).mp (bI_n0.mp h5), (below_iff (by omega)).mp (bI_n0.mp h14)⟩ hbad
theorem t_lock {M : sm_M} {a0 : Int32} (hbad : ¬ ((∃ n, n < 3 ∧ a0 = nI n))) : crt 20 7 120 [.ref 0, .int a0] M (fun _ _ => False) (fun x => x = 0) := by
  intro X J rc rs d lw hd hw h1 h6
  show sm_wp tb_T X tb_ok d lw 20 0 [some (.ref 0), some (.int a0)] [] _ _
  have hb0 : bI (¬ a0 < 0 ∧ a0 < nI 3) = 0 := bI_0.mpr (fun h => hbad ((below_iff (by omega)).mp h))
  refine go_il1 (p := 1) hf_20 rfl rfl ?_
  refine go_iconst (p := 2) hf_20 rfl rfl ci_3 ?_
  refine go_cw2 (p := 5) hf_20 rfl rfl (inv_s ho_20 cl_0_48) (by decide) nl_2 rfl rfl rfl rfl rfl rfl (by omega) (by omega) (c_isBelow) ?_
  intro v9 M9 h9
  rewrite [h9.1, h9.2]
  clear h9 v9 M9
  simp only [Option.toList, List.cons_append, List.nil_append]
  refine go_thr1 hf_20 rfl (inv_s ho_20 cl_0_52) (by decide) nl_19 rfl rfl rfl rfl rfl (thr19 hb0) h1 h6 (by omega) (by omega) rfl ?_
  exact Or.inr ⟨_, rfl, rfl, rfl⟩
theorem t_put {M : sm_M} {a0 a1 a2 : Int32} (hbad : ¬ ((∃ n, n < 3 ∧ a0 = nI n) ∧ (∃ n, n < 4 ∧ a1 = nI n) ∧ (∃ n, n < 64 ∧ a2 = nI n))) : crt 21 7 120 [.ref 0, .int a0, .int a1, .int a2] M (fun _ _ => False) (fun x => x = 0) := by
  intro X J rc rs d lw hd hw h1 h6
  show sm_wp tb_T X tb_ok d lw 21 0 [some (.ref 0), some (.int a0), some (.int a1), some (.int a2), none] [] _ _
  refine go_il1 (p := 1) hf_21 rfl rfl ?_
  refine go_iconst (p := 2) hf_21 rfl rfl ci_3 ?_
  refine go_cw2 (p := 5) hf_21 rfl rfl (inv_s ho_21 cl_0_48) (by decide) nl_2 rfl rfl rfl rfl rfl rfl (by omega) (by omega) (c_isBelow) ?_
  intro v9 M9 h9
  rewrite [h9.1, h9.2]
  clear h9 v9 M9
  simp only [Option.toList, List.cons_append, List.nil_append]
  refine go_if_eq (p := 8) (p2 := 29) hf_21 rfl rfl rfl (fun h5 => ?_) (fun h5 => ?_)
  · refine go_iconst (p := 30) hf_21 rfl rfl ci_0 ?_
    refine go_thr1 hf_21 rfl (inv_s ho_21 cl_0_52) (by decide) nl_19 rfl rfl rfl rfl rfl (thr19 rfl) h1 h6 (by omega) (by omega) rfl ?_
    exact Or.inr ⟨_, rfl, rfl, rfl⟩
  · refine go_il2 (p := 9) hf_21 rfl rfl ?_
    refine go_iconst (p := 10) hf_21 rfl rfl ci_4 ?_
    refine go_cw2 (p := 13) hf_21 rfl rfl (inv_s ho_21 cl_0_48) (by decide) nl_2 rfl rfl rfl rfl rfl rfl (by omega) (by omega) (c_isBelow) ?_
    intro v9 M9 h9
    rewrite [h9.1, h9.2]
    clear h9 v9 M9
    simp only [Option.toList, List.cons_append, List.nil_append]
    refine go_if_eq (p := 16) (p2 := 29) hf_21 rfl rfl rfl (fun h13 => ?_) (fun h13 => ?_)
    · refine go_iconst (p := 30) hf_21 rfl rfl ci_0 ?_
      refine go_thr1 hf_21 rfl (inv_s ho_21 cl_0_52) (by decide) nl_19 rfl rfl rfl rfl rfl (thr19 rfl) h1 h6 (by omega) (by omega) rfl ?_
      exact Or.inr ⟨_, rfl, rfl, rfl⟩
    · refine go_il3 (p := 17) hf_21 rfl rfl ?_
      refine go_bipush (p := 19) hf_21 rfl rfl cb_64 ?_
      refine go_cw2 (p := 22) hf_21 rfl rfl (inv_s ho_21 cl_0_48) (by decide) nl_2 rfl rfl rfl rfl rfl rfl (by omega) (by omega) (c_isBelow) ?_
      intro v9 M9 h9
      rewrite [h9.1, h9.2]
      clear h9 v9 M9
      simp only [Option.toList, List.cons_append, List.nil_append]
      refine go_if_eq (p := 25) (p2 := 29) hf_21 rfl rfl rfl (fun h22 => ?_) (fun h22 => ?_)
      · refine go_iconst (p := 30) hf_21 rfl rfl ci_0 ?_
        refine go_thr1 hf_21 rfl (inv_s ho_21 cl_0_52) (by decide) nl_19 rfl rfl rfl rfl rfl (thr19 rfl) h1 h6 (by omega) (by omega) rfl ?_
        exact Or.inr ⟨_, rfl, rfl, rfl⟩
      · refine go_iconst (p := 26) hf_21 rfl rfl ci_1 ?_
        refine go_goto (p2 := 30) hf_21 rfl rfl ?_
        exact absurd ⟨(below_iff (by omega)).mp (bI_n0.mp h5), (below_iff (by omega)).mp (bI_n0.mp h13), (below_iff (by omega)).mp (bI_n0.mp h22)⟩ hbad
theorem u_put {M : sm_M} {q k n1 n2 : Nat} (hdv : dvq k q) (hn1 : n1 < 4) (hn2 : n2 < 64) (h0 : ¬ M q 3 = 0) : crt 21 7 120 [.ref 0, .int (nI k), .int (nI n1), .int (nI n2)] M (fun _ _ => False) (fun x => x = 1) := by
  intro X J rc rs d lw hd hw h1 h6
  show sm_wp tb_T X tb_ok d lw 21 0 [some (.ref 0), some (.int (nI k)), some (.int (nI n1)), some (.int (nI n2)), none] [] _ _
  have hk := hdv.1
  have hq := hdv.2.1
  have hz := hdv.2.2.1
  have hsh := hdv.2.2.2.1
  obtain ⟨s1, s2, s3, s4⟩ := id hdv.2.2.2.2.1
  have s5 := hdv.2.2.2.2.2
  refine go_il1 (p := 1) hf_21 rfl rfl ?_
  refine go_iconst (p := 2) hf_21 rfl rfl ci_3 ?_
  refine go_cw2 (p := 5) hf_21 rfl rfl (inv_s ho_21 cl_0_48) (by decide) nl_2 rfl rfl rfl rfl rfl rfl (by omega) (by omega) (c_isBelow) ?_
  intro v9 M9 h9
  rewrite [h9.1, h9.2]
  clear h9 v9 M9
  simp only [Option.toList, List.cons_append, List.nil_append]
  refine go_if_eq (p := 8) (p2 := 29) hf_21 rfl rfl rfl (fun h5 => absurd ((below_iff (by omega)).mpr ⟨k, hk, rfl⟩) (bI_0.mp h5)) (fun h5 => ?_)
  refine go_il2 (p := 9) hf_21 rfl rfl ?_
  refine go_iconst (p := 10) hf_21 rfl rfl ci_4 ?_
  refine go_cw2 (p := 13) hf_21 rfl rfl (inv_s ho_21 cl_0_48) (by decide) nl_2 rfl rfl rfl rfl rfl rfl (by omega) (by omega) (c_isBelow) ?_
  intro v9 M9 h9
  rewrite [h9.1, h9.2]
  clear h9 v9 M9
  simp only [Option.toList, List.cons_append, List.nil_append]
  refine go_if_eq (p := 16) (p2 := 29) hf_21 rfl rfl rfl (fun h13 => absurd ((below_iff (by omega)).mpr ⟨n1, hn1, rfl⟩) (bI_0.mp h13)) (fun h13 => ?_)
  refine go_il3 (p := 17) hf_21 rfl rfl ?_
  refine go_bipush (p := 19) hf_21 rfl rfl cb_64 ?_
  refine go_cw2 (p := 22) hf_21 rfl rfl (inv_s ho_21 cl_0_48) (by decide) nl_2 rfl rfl rfl rfl rfl rfl (by omega) (by omega) (c_isBelow) ?_
  intro v9 M9 h9
  rewrite [h9.1, h9.2]
  clear h9 v9 M9
  simp only [Option.toList, List.cons_append, List.nil_append]
  refine go_if_eq (p := 25) (p2 := 29) hf_21 rfl rfl rfl (fun h22 => absurd ((below_iff (by omega)).mpr ⟨n2, hn2, rfl⟩) (bI_0.mp h22)) (fun h22 => ?_)
  refine go_iconst (p := 26) hf_21 rfl rfl ci_1 ?_
  refine go_goto (p2 := 30) hf_21 rfl rfl ?_
  refine go_cw1 (p := 33) hf_21 rfl rfl (inv_s ho_21 cl_0_52) (by decide) nl_19 rfl rfl rfl rfl rfl (thr19n nI_10) (by omega) (by omega) (c_require nI_10) ?_
  intro v9 M9 h9
  rewrite [h9.1, h9.2]
  clear h9 v9 M9
  simp only [Option.toList, List.cons_append, List.nil_append]
  refine go_al0 (p := 34) hf_21 rfl rfl ?_
  refine go_getr (p := 37) hf_21 ho_21 rfl fl_0_32 rfl (by first | with_reducible assumption | rfl) rfl ?_
  refine go_il1 (p := 38) hf_21 rfl rfl ?_
  refine go_aald (p := 39) hf_21 rfl rfl (by first | with_reducible assumption | rfl) (by first | rfl | with_reducible assumption) (by first | exact rfl | with_reducible assumption) hz ?_
  refine go_thr1 hf_21 rfl (inv_s ho_21 cl_0_66) (by decide) nl_22 rfl rfl rfl rfl rfl (thr22_s hdv h0) h1 h6 (by omega) (by omega) rfl ?_
  exact Or.inr ⟨_, rfl, rfl, rfl⟩
theorem t_erase {M : sm_M} {a0 a1 : Int32} (hbad : ¬ ((∃ n, n < 3 ∧ a0 = nI n) ∧ (∃ n, n < 4 ∧ a1 = nI n))) : crt 23 7 120 [.ref 0, .int a0, .int a1] M (fun _ _ => False) (fun x => x = 0) := by
  intro X J rc rs d lw hd hw h1 h6
  show sm_wp tb_T X tb_ok d lw 23 0 [some (.ref 0), some (.int a0), some (.int a1), none, none] [] _ _
  refine go_il1 (p := 1) hf_23 rfl rfl ?_
  refine go_iconst (p := 2) hf_23 rfl rfl ci_3 ?_
  refine go_cw2 (p := 5) hf_23 rfl rfl (inv_s ho_23 cl_0_48) (by decide) nl_2 rfl rfl rfl rfl rfl rfl (by omega) (by omega) (c_isBelow) ?_
  intro v9 M9 h9
  rewrite [h9.1, h9.2]
  clear h9 v9 M9
  simp only [Option.toList, List.cons_append, List.nil_append]
  refine go_if_eq (p := 8) (p2 := 20) hf_23 rfl rfl rfl (fun h5 => ?_) (fun h5 => ?_)
  · refine go_iconst (p := 21) hf_23 rfl rfl ci_0 ?_
    refine go_thr1 hf_23 rfl (inv_s ho_23 cl_0_52) (by decide) nl_19 rfl rfl rfl rfl rfl (thr19 rfl) h1 h6 (by omega) (by omega) rfl ?_
    exact Or.inr ⟨_, rfl, rfl, rfl⟩
  · refine go_il2 (p := 9) hf_23 rfl rfl ?_
    refine go_iconst (p := 10) hf_23 rfl rfl ci_4 ?_
    refine go_cw2 (p := 13) hf_23 rfl rfl (inv_s ho_23 cl_0_48) (by decide) nl_2 rfl rfl rfl rfl rfl rfl (by omega) (by omega) (c_isBelow) ?_
    intro v9 M9 h9
    rewrite [h9.1, h9.2]
    clear h9 v9 M9
    simp only [Option.toList, List.cons_append, List.nil_append]
    refine go_if_eq (p := 16) (p2 := 20) hf_23 rfl rfl rfl (fun h13 => ?_) (fun h13 => ?_)
    · refine go_iconst (p := 21) hf_23 rfl rfl ci_0 ?_
      refine go_thr1 hf_23 rfl (inv_s ho_23 cl_0_52) (by decide) nl_19 rfl rfl rfl rfl rfl (thr19 rfl) h1 h6 (by omega) (by omega) rfl ?_
      exact Or.inr ⟨_, rfl, rfl, rfl⟩
    · refine go_iconst (p := 17) hf_23 rfl rfl ci_1 ?_
      refine go_goto (p2 := 21) hf_23 rfl rfl ?_
      exact absurd ⟨(below_iff (by omega)).mp (bI_n0.mp h5), (below_iff (by omega)).mp (bI_n0.mp h13)⟩ hbad
theorem u_erase {M : sm_M} {q k n1 : Nat} (hdv : dvq k q) (hn1 : n1 < 4) (h0 : ¬ M q 3 = 0) : crt 23 7 120 [.ref 0, .int (nI k), .int (nI n1)] M (fun _ _ => False) (fun x => x = 1) := by
  intro X J rc rs d lw hd hw h1 h6
  show sm_wp tb_T X tb_ok d lw 23 0 [some (.ref 0), some (.int (nI k)), some (.int (nI n1)), none, none] [] _ _
  have hk := hdv.1
  have hq := hdv.2.1
  have hz := hdv.2.2.1
  have hsh := hdv.2.2.2.1
  obtain ⟨s1, s2, s3, s4⟩ := id hdv.2.2.2.2.1
  have s5 := hdv.2.2.2.2.2
  refine go_il1 (p := 1) hf_23 rfl rfl ?_
  refine go_iconst (p := 2) hf_23 rfl rfl ci_3 ?_
  refine go_cw2 (p := 5) hf_23 rfl rfl (inv_s ho_23 cl_0_48) (by decide) nl_2 rfl rfl rfl rfl rfl rfl (by omega) (by omega) (c_isBelow) ?_
  intro v9 M9 h9
  rewrite [h9.1, h9.2]
  clear h9 v9 M9
  simp only [Option.toList, List.cons_append, List.nil_append]
  refine go_if_eq (p := 8) (p2 := 20) hf_23 rfl rfl rfl (fun h5 => absurd ((below_iff (by omega)).mpr ⟨k, hk, rfl⟩) (bI_0.mp h5)) (fun h5 => ?_)
  refine go_il2 (p := 9) hf_23 rfl rfl ?_
  refine go_iconst (p := 10) hf_23 rfl rfl ci_4 ?_
  refine go_cw2 (p := 13) hf_23 rfl rfl (inv_s ho_23 cl_0_48) (by decide) nl_2 rfl rfl rfl rfl rfl rfl (by omega) (by omega) (c_isBelow) ?_
  intro v9 M9 h9
  rewrite [h9.1, h9.2]
  clear h9 v9 M9
  simp only [Option.toList, List.cons_append, List.nil_append]
  refine go_if_eq (p := 16) (p2 := 20) hf_23 rfl rfl rfl (fun h13 => absurd ((below_iff (by omega)).mpr ⟨n1, hn1, rfl⟩) (bI_0.mp h13)) (fun h13 => ?_)
  refine go_iconst (p := 17) hf_23 rfl rfl ci_1 ?_
  refine go_goto (p2 := 21) hf_23 rfl rfl ?_
  refine go_cw1 (p := 24) hf_23 rfl rfl (inv_s ho_23 cl_0_52) (by decide) nl_19 rfl rfl rfl rfl rfl (thr19n nI_10) (by omega) (by omega) (c_require nI_10) ?_
  intro v9 M9 h9
  rewrite [h9.1, h9.2]
  clear h9 v9 M9
  simp only [Option.toList, List.cons_append, List.nil_append]
  refine go_al0 (p := 25) hf_23 rfl rfl ?_
  refine go_getr (p := 28) hf_23 ho_23 rfl fl_0_32 rfl (by first | with_reducible assumption | rfl) rfl ?_
  refine go_il1 (p := 29) hf_23 rfl rfl ?_
  refine go_aald (p := 30) hf_23 rfl rfl (by first | with_reducible assumption | rfl) (by first | rfl | with_reducible assumption) (by first | exact rfl | with_reducible assumption) hz ?_
  refine go_thr1 hf_23 rfl (inv_s ho_23 cl_0_66) (by decide) nl_22 rfl rfl rfl rfl rfl (thr22_s hdv h0) h1 h6 (by omega) (by omega) rfl ?_
  exact Or.inr ⟨_, rfl, rfl, rfl⟩
theorem t_get {M : sm_M} {a0 a1 a2 : Int32} (hbad : ¬ ((∃ n, n < 3 ∧ a0 = nI n) ∧ (∃ n, n < 4 ∧ a1 = nI n))) : crt 24 7 120 [.ref 0, .int a0, .int a1, .int a2] M (fun _ _ => False) (fun x => x = 0) := by
  intro X J rc rs d lw hd hw h1 h6
  show sm_wp tb_T X tb_ok d lw 24 0 [some (.ref 0), some (.int a0), some (.int a1), some (.int a2), none] [] _ _
  refine go_il1 (p := 1) hf_24 rfl rfl ?_
  refine go_iconst (p := 2) hf_24 rfl rfl ci_3 ?_
  refine go_cw2 (p := 5) hf_24 rfl rfl (inv_s ho_24 cl_0_48) (by decide) nl_2 rfl rfl rfl rfl rfl rfl (by omega) (by omega) (c_isBelow) ?_
  intro v9 M9 h9
  rewrite [h9.1, h9.2]
  clear h9 v9 M9
  simp only [Option.toList, List.cons_append, List.nil_append]
  refine go_if_eq (p := 8) (p2 := 20) hf_24 rfl rfl rfl (fun h5 => ?_) (fun h5 => ?_)
  · refine go_iconst (p := 21) hf_24 rfl rfl ci_0 ?_
    refine go_thr1 hf_24 rfl (inv_s ho_24 cl_0_52) (by decide) nl_19 rfl rfl rfl rfl rfl (thr19 rfl) h1 h6 (by omega) (by omega) rfl ?_
    exact Or.inr ⟨_, rfl, rfl, rfl⟩
  · refine go_il2 (p := 9) hf_24 rfl rfl ?_
    refine go_iconst (p := 10) hf_24 rfl rfl ci_4 ?_
    refine go_cw2 (p := 13) hf_24 rfl rfl (inv_s ho_24 cl_0_48) (by decide) nl_2 rfl rfl rfl rfl rfl rfl (by omega) (by omega) (c_isBelow) ?_
    intro v9 M9 h9
    rewrite [h9.1, h9.2]
    clear h9 v9 M9
    simp only [Option.toList, List.cons_append, List.nil_append]
    refine go_if_eq (p := 16) (p2 := 20) hf_24 rfl rfl rfl (fun h13 => ?_) (fun h13 => ?_)
    · refine go_iconst (p := 21) hf_24 rfl rfl ci_0 ?_
      refine go_thr1 hf_24 rfl (inv_s ho_24 cl_0_52) (by decide) nl_19 rfl rfl rfl rfl rfl (thr19 rfl) h1 h6 (by omega) (by omega) rfl ?_
      exact Or.inr ⟨_, rfl, rfl, rfl⟩
    · refine go_iconst (p := 17) hf_24 rfl rfl ci_1 ?_
      refine go_goto (p2 := 21) hf_24 rfl rfl ?_
      exact absurd ⟨(below_iff (by omega)).mp (bI_n0.mp h5), (below_iff (by omega)).mp (bI_n0.mp h13)⟩ hbad
theorem u_get {M : sm_M} {q k n1 : Nat} {a2 : Int32} (hdv : dvq k q) (hn1 : n1 < 4) (h0 : ¬ M q 3 = 0) : crt 24 7 120 [.ref 0, .int (nI k), .int (nI n1), .int a2] M (fun _ _ => False) (fun x => x = 1) := by
  intro X J rc rs d lw hd hw h1 h6
  show sm_wp tb_T X tb_ok d lw 24 0 [some (.ref 0), some (.int (nI k)), some (.int (nI n1)), some (.int a2), none] [] _ _
  have hk := hdv.1
  have hq := hdv.2.1
  have hz := hdv.2.2.1
  have hsh := hdv.2.2.2.1
  obtain ⟨s1, s2, s3, s4⟩ := id hdv.2.2.2.2.1
  have s5 := hdv.2.2.2.2.2
  refine go_il1 (p := 1) hf_24 rfl rfl ?_
  refine go_iconst (p := 2) hf_24 rfl rfl ci_3 ?_
  refine go_cw2 (p := 5) hf_24 rfl rfl (inv_s ho_24 cl_0_48) (by decide) nl_2 rfl rfl rfl rfl rfl rfl (by omega) (by omega) (c_isBelow) ?_
  intro v9 M9 h9
  rewrite [h9.1, h9.2]
  clear h9 v9 M9
  simp only [Option.toList, List.cons_append, List.nil_append]
  refine go_if_eq (p := 8) (p2 := 20) hf_24 rfl rfl rfl (fun h5 => absurd ((below_iff (by omega)).mpr ⟨k, hk, rfl⟩) (bI_0.mp h5)) (fun h5 => ?_)
  refine go_il2 (p := 9) hf_24 rfl rfl ?_
  refine go_iconst (p := 10) hf_24 rfl rfl ci_4 ?_
  refine go_cw2 (p := 13) hf_24 rfl rfl (inv_s ho_24 cl_0_48) (by decide) nl_2 rfl rfl rfl rfl rfl rfl (by omega) (by omega) (c_isBelow) ?_
  intro v9 M9 h9
  rewrite [h9.1, h9.2]
  clear h9 v9 M9
  simp only [Option.toList, List.cons_append, List.nil_append]
  refine go_if_eq (p := 16) (p2 := 20) hf_24 rfl rfl rfl (fun h13 => absurd ((below_iff (by omega)).mpr ⟨n1, hn1, rfl⟩) (bI_0.mp h13)) (fun h13 => ?_)
  refine go_iconst (p := 17) hf_24 rfl rfl ci_1 ?_
  refine go_goto (p2 := 21) hf_24 rfl rfl ?_
  refine go_cw1 (p := 24) hf_24 rfl rfl (inv_s ho_24 cl_0_52) (by decide) nl_19 rfl rfl rfl rfl rfl (thr19n nI_10) (by omega) (by omega) (c_require nI_10) ?_
  intro v9 M9 h9
  rewrite [h9.1, h9.2]
  clear h9 v9 M9
  simp only [Option.toList, List.cons_append, List.nil_append]
  refine go_al0 (p := 25) hf_24 rfl rfl ?_
  refine go_getr (p := 28) hf_24 ho_24 rfl fl_0_32 rfl (by first | with_reducible assumption | rfl) rfl ?_
  refine go_il1 (p := 29) hf_24 rfl rfl ?_
  refine go_aald (p := 30) hf_24 rfl rfl (by first | with_reducible assumption | rfl) (by first | rfl | with_reducible assumption) (by first | exact rfl | with_reducible assumption) hz ?_
  refine go_thr1 hf_24 rfl (inv_s ho_24 cl_0_66) (by decide) nl_22 rfl rfl rfl rfl rfl (thr22_s hdv h0) h1 h6 (by omega) (by omega) rfl ?_
  exact Or.inr ⟨_, rfl, rfl, rfl⟩
theorem t_change {M : sm_M} {a0 a1 : Int32} (hbad : ¬ ((∃ n, n < 3 ∧ a0 = nI n) ∧ (∃ n, n < 8 ∧ a1 = nI n))) : crt 25 7 120 [.ref 0, .int a0, .int a1] M (fun _ _ => False) (fun x => x = 0) := by
  intro X J rc rs d lw hd hw h1 h6
  show sm_wp tb_T X tb_ok d lw 25 0 [some (.ref 0), some (.int a0), some (.int a1), none] [] _ _
  refine go_il1 (p := 1) hf_25 rfl rfl ?_
  refine go_iconst (p := 2) hf_25 rfl rfl ci_3 ?_
  refine go_cw2 (p := 5) hf_25 rfl rfl (inv_s ho_25 cl_0_48) (by decide) nl_2 rfl rfl rfl rfl rfl rfl (by omega) (by omega) (c_isBelow) ?_
  intro v9 M9 h9
  rewrite [h9.1, h9.2]
  clear h9 v9 M9
  simp only [Option.toList, List.cons_append, List.nil_append]
  refine go_if_eq (p := 8) (p2 := 21) hf_25 rfl rfl rfl (fun h5 => ?_) (fun h5 => ?_)
  · refine go_iconst (p := 22) hf_25 rfl rfl ci_0 ?_
    refine go_thr1 hf_25 rfl (inv_s ho_25 cl_0_52) (by decide) nl_19 rfl rfl rfl rfl rfl (thr19 rfl) h1 h6 (by omega) (by omega) rfl ?_
    exact Or.inr ⟨_, rfl, rfl, rfl⟩
  · refine go_il2 (p := 9) hf_25 rfl rfl ?_
    refine go_bipush (p := 11) hf_25 rfl rfl cb_8 ?_
    refine go_cw2 (p := 14) hf_25 rfl rfl (inv_s ho_25 cl_0_48) (by decide) nl_2 rfl rfl rfl rfl rfl rfl (by omega) (by omega) (c_isBelow) ?_
    intro v9 M9 h9
    rewrite [h9.1, h9.2]
    clear h9 v9 M9
    simp only [Option.toList, List.cons_append, List.nil_append]
    refine go_if_eq (p := 17) (p2 := 21) hf_25 rfl rfl rfl (fun h14 => ?_) (fun h14 => ?_)
    · refine go_iconst (p := 22) hf_25 rfl rfl ci_0 ?_
      refine go_thr1 hf_25 rfl (inv_s ho_25 cl_0_52) (by decide) nl_19 rfl rfl rfl rfl rfl (thr19 rfl) h1 h6 (by omega) (by omega) rfl ?_
      exact Or.inr ⟨_, rfl, rfl, rfl⟩
    · refine go_iconst (p := 18) hf_25 rfl rfl ci_1 ?_
      refine go_goto (p2 := 22) hf_25 rfl rfl ?_
      exact absurd ⟨(below_iff (by omega)).mp (bI_n0.mp h5), (below_iff (by omega)).mp (bI_n0.mp h14)⟩ hbad
theorem u_change {M : sm_M} {q k n1 : Nat} (hdv : dvq k q) (hn1 : n1 < 8) (h0 : ¬ M q 3 = 0) : crt 25 7 120 [.ref 0, .int (nI k), .int (nI n1)] M (fun _ _ => False) (fun x => x = 1) := by
  intro X J rc rs d lw hd hw h1 h6
  show sm_wp tb_T X tb_ok d lw 25 0 [some (.ref 0), some (.int (nI k)), some (.int (nI n1)), none] [] _ _
  have hk := hdv.1
  have hq := hdv.2.1
  have hz := hdv.2.2.1
  have hsh := hdv.2.2.2.1
  obtain ⟨s1, s2, s3, s4⟩ := id hdv.2.2.2.2.1
  have s5 := hdv.2.2.2.2.2
  refine go_il1 (p := 1) hf_25 rfl rfl ?_
  refine go_iconst (p := 2) hf_25 rfl rfl ci_3 ?_
  refine go_cw2 (p := 5) hf_25 rfl rfl (inv_s ho_25 cl_0_48) (by decide) nl_2 rfl rfl rfl rfl rfl rfl (by omega) (by omega) (c_isBelow) ?_
  intro v9 M9 h9
  rewrite [h9.1, h9.2]
  clear h9 v9 M9
  simp only [Option.toList, List.cons_append, List.nil_append]
  refine go_if_eq (p := 8) (p2 := 21) hf_25 rfl rfl rfl (fun h5 => absurd ((below_iff (by omega)).mpr ⟨k, hk, rfl⟩) (bI_0.mp h5)) (fun h5 => ?_)
  refine go_il2 (p := 9) hf_25 rfl rfl ?_
  refine go_bipush (p := 11) hf_25 rfl rfl cb_8 ?_
  refine go_cw2 (p := 14) hf_25 rfl rfl (inv_s ho_25 cl_0_48) (by decide) nl_2 rfl rfl rfl rfl rfl rfl (by omega) (by omega) (c_isBelow) ?_
  intro v9 M9 h9
  rewrite [h9.1, h9.2]
  clear h9 v9 M9
  simp only [Option.toList, List.cons_append, List.nil_append]
  refine go_if_eq (p := 17) (p2 := 21) hf_25 rfl rfl rfl (fun h14 => absurd ((below_iff (by omega)).mpr ⟨n1, hn1, rfl⟩) (bI_0.mp h14)) (fun h14 => ?_)
  refine go_iconst (p := 18) hf_25 rfl rfl ci_1 ?_
  refine go_goto (p2 := 22) hf_25 rfl rfl ?_
  refine go_cw1 (p := 25) hf_25 rfl rfl (inv_s ho_25 cl_0_52) (by decide) nl_19 rfl rfl rfl rfl rfl (thr19n nI_10) (by omega) (by omega) (c_require nI_10) ?_
  intro v9 M9 h9
  rewrite [h9.1, h9.2]
  clear h9 v9 M9
  simp only [Option.toList, List.cons_append, List.nil_append]
  refine go_al0 (p := 26) hf_25 rfl rfl ?_
  refine go_getr (p := 29) hf_25 ho_25 rfl fl_0_32 rfl (by first | with_reducible assumption | rfl) rfl ?_
  refine go_il1 (p := 30) hf_25 rfl rfl ?_
  refine go_aald (p := 31) hf_25 rfl rfl (by first | with_reducible assumption | rfl) (by first | rfl | with_reducible assumption) (by first | exact rfl | with_reducible assumption) hz ?_
  refine go_thr1 hf_25 rfl (inv_s ho_25 cl_0_66) (by decide) nl_22 rfl rfl rfl rfl rfl (thr22_s hdv h0) h1 h6 (by omega) (by omega) rfl ?_
  exact Or.inr ⟨_, rfl, rfl, rfl⟩
theorem t_pull {M : sm_M} {a0 : Int32} (hbad : ¬ ((∃ n, n < 3 ∧ a0 = nI n))) : crt 26 7 120 [.ref 0, .int a0] M (fun _ _ => False) (fun x => x = 0) := by
  intro X J rc rs d lw hd hw h1 h6
  show sm_wp tb_T X tb_ok d lw 26 0 [some (.ref 0), some (.int a0)] [] _ _
  have hb0 : bI (¬ a0 < 0 ∧ a0 < nI 3) = 0 := bI_0.mpr (fun h => hbad ((below_iff (by omega)).mp h))
  refine go_il1 (p := 1) hf_26 rfl rfl ?_
  refine go_iconst (p := 2) hf_26 rfl rfl ci_3 ?_
  refine go_cw2 (p := 5) hf_26 rfl rfl (inv_s ho_26 cl_0_48) (by decide) nl_2 rfl rfl rfl rfl rfl rfl (by omega) (by omega) (c_isBelow) ?_
  intro v9 M9 h9
  rewrite [h9.1, h9.2]
  clear h9 v9 M9
  simp only [Option.toList, List.cons_append, List.nil_append]
  refine go_thr1 hf_26 rfl (inv_s ho_26 cl_0_52) (by decide) nl_19 rfl rfl rfl rfl rfl (thr19 hb0) h1 h6 (by omega) (by omega) rfl ?_
  exact Or.inr ⟨_, rfl, rfl, rfl⟩
theorem u_pull {M : sm_M} {q k : Nat} (hdv : dvq k q)  (h0 : ¬ M q 3 = 0) : crt 26 7 120 [.ref 0, .int (nI k)] M (fun _ _ => False) (fun x => x = 1) := by
  intro X J rc rs d lw hd hw h1 h6
  show sm_wp tb_T X tb_ok d lw 26 0 [some (.ref 0), some (.int (nI k))] [] _ _
  have hk := hdv.1
  have hq := hdv.2.1
  have hz := hdv.2.2.1
  have hsh := hdv.2.2.2.1
  obtain ⟨s1, s2, s3, s4⟩ := id hdv.2.2.2.2.1
  have s5 := hdv.2.2.2.2.2
  refine go_il1 (p := 1) hf_26 rfl rfl ?_
  refine go_iconst (p := 2) hf_26 rfl rfl ci_3 ?_
  refine go_cw2 (p := 5) hf_26 rfl rfl (inv_s ho_26 cl_0_48) (by decide) nl_2 rfl rfl rfl rfl rfl rfl (by omega) (by omega) (c_isBelow) ?_
  intro v9 M9 h9
  rewrite [h9.1, h9.2]
  clear h9 v9 M9
  simp only [Option.toList, List.cons_append, List.nil_append]
  refine go_cw1 (p := 8) hf_26 rfl rfl (inv_s ho_26 cl_0_52) (by decide) nl_19 rfl rfl rfl rfl rfl (thr19n (bI_n0.mpr ((below_iff (by omega)).mpr ⟨k, hk, rfl⟩))) (by omega) (by omega) (c_require (bI_n0.mpr ((below_iff (by omega)).mpr ⟨k, hk, rfl⟩))) ?_
  intro v9 M9 h9
  rewrite [h9.1, h9.2]
  clear h9 v9 M9
  simp only [Option.toList, List.cons_append, List.nil_append]
  refine go_al0 (p := 9) hf_26 rfl rfl ?_
  refine go_getr (p := 12) hf_26 ho_26 rfl fl_0_32 rfl (by first | with_reducible assumption | rfl) rfl ?_
  refine go_il1 (p := 13) hf_26 rfl rfl ?_
  refine go_aald (p := 14) hf_26 rfl rfl (by first | with_reducible assumption | rfl) (by first | rfl | with_reducible assumption) (by first | exact rfl | with_reducible assumption) hz ?_
  refine go_thr1 hf_26 rfl (inv_s ho_26 cl_0_66) (by decide) nl_22 rfl rfl rfl rfl rfl (thr22_s hdv h0) h1 h6 (by omega) (by omega) rfl ?_
  exact Or.inr ⟨_, rfl, rfl, rfl⟩
theorem t_push {M : sm_M} {a0 : Int32} (hbad : ¬ ((∃ n, n < 3 ∧ a0 = nI n))) : crt 27 7 120 [.ref 0, .int a0] M (fun _ _ => False) (fun x => x = 0) := by
  intro X J rc rs d lw hd hw h1 h6
  show sm_wp tb_T X tb_ok d lw 27 0 [some (.ref 0), some (.int a0), none] [] _ _
  have hb0 : bI (¬ a0 < 0 ∧ a0 < nI 3) = 0 := bI_0.mpr (fun h => hbad ((below_iff (by omega)).mp h))
  refine go_il1 (p := 1) hf_27 rfl rfl ?_
  refine go_iconst (p := 2) hf_27 rfl rfl ci_3 ?_
  refine go_cw2 (p := 5) hf_27 rfl rfl (inv_s ho_27 cl_0_48) (by decide) nl_2 rfl rfl rfl rfl rfl rfl (by omega) (by omega) (c_isBelow) ?_
  intro v9 M9 h9
  rewrite [h9.1, h9.2]
  clear h9 v9 M9
  simp only [Option.toList, List.cons_append, List.nil_append]
  refine go_thr1 hf_27 rfl (inv_s ho_27 cl_0_52) (by decide) nl_19 rfl rfl rfl rfl rfl (thr19 hb0) h1 h6 (by omega) (by omega) rfl ?_
  exact Or.inr ⟨_, rfl, rfl, rfl⟩
theorem u_push {M : sm_M} {q k : Nat} (hdv : dvq k q)  (h0 : ¬ M q 3 = 0) : crt 27 7 120 [.ref 0, .int (nI k)] M (fun _ _ => False) (fun x => x = 1) := by
  intro X J rc rs d lw hd hw h1 h6
  show sm_wp tb_T X tb_ok d lw 27 0 [some (.ref 0), some (.int (nI k)), none] [] _ _
  have hk := hdv.1
  have hq := hdv.2.1
  have hz := hdv.2.2.1
  have hsh := hdv.2.2.2.1
  obtain ⟨s1, s2, s3, s4⟩ := id hdv.2.2.2.2.1
  have s5 := hdv.2.2.2.2.2
  refine go_il1 (p := 1) hf_27 rfl rfl ?_
  refine go_iconst (p := 2) hf_27 rfl rfl ci_3 ?_
  refine go_cw2 (p := 5) hf_27 rfl rfl (inv_s ho_27 cl_0_48) (by decide) nl_2 rfl rfl rfl rfl rfl rfl (by omega) (by omega) (c_isBelow) ?_
  intro v9 M9 h9
  rewrite [h9.1, h9.2]
  clear h9 v9 M9
  simp only [Option.toList, List.cons_append, List.nil_append]
  refine go_cw1 (p := 8) hf_27 rfl rfl (inv_s ho_27 cl_0_52) (by decide) nl_19 rfl rfl rfl rfl rfl (thr19n (bI_n0.mpr ((below_iff (by omega)).mpr ⟨k, hk, rfl⟩))) (by omega) (by omega) (c_require (bI_n0.mpr ((below_iff (by omega)).mpr ⟨k, hk, rfl⟩))) ?_
  intro v9 M9 h9
  rewrite [h9.1, h9.2]
  clear h9 v9 M9
  simp only [Option.toList, List.cons_append, List.nil_append]
  refine go_al0 (p := 9) hf_27 rfl rfl ?_
  refine go_getr (p := 12) hf_27 ho_27 rfl fl_0_32 rfl (by first | with_reducible assumption | rfl) rfl ?_
  refine go_il1 (p := 13) hf_27 rfl rfl ?_
  refine go_aald (p := 14) hf_27 rfl rfl (by first | with_reducible assumption | rfl) (by first | rfl | with_reducible assumption) (by first | exact rfl | with_reducible assumption) hz ?_
  refine go_thr1 hf_27 rfl (inv_s ho_27 cl_0_66) (by decide) nl_22 rfl rfl rfl rfl rfl (thr22_s hdv h0) h1 h6 (by omega) (by omega) rfl ?_
  exact Or.inr ⟨_, rfl, rfl, rfl⟩
theorem c_unlock {M : sm_M} {q k : Nat} {n1 : Nat} (hdv : dvq k q) (hn1 : n1 < 8) (h3 : M q 3 = 0 ∨ M q 3 = 1) : cr 18 1 21 [.ref 0, .int (nI k), .int (nI n1)] M (fun v M1 => ∃ u, v = some (.int u) ∧ ((M q 3 = 1 ∧ M (q + 1) 2 = nI n1 ∧ u = nI 1 ∧ M1 = sm_up M q 3 (nI 0)) ∨ (¬ (M q 3 = 1 ∧ M (q + 1) 2 = nI n1) ∧ u = nI 0 ∧ M1 = M))) := by
  intro X J rc rs d lw hd hw
  show sm_wp tb_T X tb_ok d lw 18 0 [some (.ref 0), some (.int (nI k)), some (.int (nI n1)), none] [] _ _
  have hk := hdv.1
  have hq := hdv.2.1
  have hz := hdv.2.2.1
  have hsh := hdv.2.2.2.1
  obtain ⟨s1, s2, s3, s4⟩ := id hdv.2.2.2.2.1
  have s5 := hdv.2.2.2.2.2
  refine go_il1 (p := 1) hf_18 rfl rfl ?_
  refine go_iconst (p := 2) hf_18 rfl rfl ci_3 ?_
  refine go_cw2 (p := 5) hf_18 rfl rfl (inv_s ho_18 cl_0_48) (by decide) nl_2 rfl rfl rfl rfl rfl rfl (by omega) (by omega) (c_isBelow) ?_
  intro v9 M9 h9
  rewrite [h9.1, h9.2]
  clear h9 v9 M9
  simp only [Option.toList, List.cons_append, List.nil_append]
  refine go_if_eq (p := 8) (p2 := 21) hf_18 rfl rfl rfl (fun h5 => absurd ((below_iff (by omega)).mpr ⟨k, hk, rfl⟩) (bI_0.mp h5)) (fun h5 => ?_)
  refine go_il2 (p := 9) hf_18 rfl rfl ?_
  refine go_bipush (p := 11) hf_18 rfl rfl cb_8 ?_
  refine go_cw2 (p := 14) hf_18 rfl rfl (inv_s ho_18 cl_0_48) (by decide) nl_2 rfl rfl rfl rfl rfl rfl (by omega) (by omega) (c_isBelow) ?_
  intro v9 M9 h9
  rewrite [h9.1, h9.2]
  clear h9 v9 M9
  simp only [Option.toList, List.cons_append, List.nil_append]
  refine go_if_eq (p := 17) (p2 := 21) hf_18 rfl rfl rfl (fun h14 => absurd ((below_iff (by omega)).mpr ⟨n1, hn1, rfl⟩) (bI_0.mp h14)) (fun h14 => ?_)
  refine go_iconst (p := 18) hf_18 rfl rfl ci_1 ?_
  refine go_goto (p2 := 22) hf_18 rfl rfl ?_
  refine go_cw1 (p := 25) hf_18 rfl rfl (inv_s ho_18 cl_0_52) (by decide) nl_19 rfl rfl rfl rfl rfl (thr19n nI_10) (by omega) (by omega) (c_require nI_10) ?_
  intro v9 M9 h9
  rewrite [h9.1, h9.2]
  clear h9 v9 M9
  simp only [Option.toList, List.cons_append, List.nil_append]
  refine go_al0 (p := 26) hf_18 rfl rfl ?_
  refine go_getr (p := 29) hf_18 ho_18 rfl fl_0_32 rfl (by first | with_reducible assumption | rfl) rfl ?_
  refine go_il1 (p := 30) hf_18 rfl rfl ?_
  refine go_aald (p := 31) hf_18 rfl rfl (by first | with_reducible assumption | rfl) (by first | rfl | with_reducible assumption) (by first | exact rfl | with_reducible assumption) hz ?_
  refine go_as3 (p := 32) hf_18 rfl rfl ?_
  refine go_al3 (p := 33) hf_18 rfl rfl ?_
  refine go_get (p := 36) hf_18 ho_18 rfl fl_0_56 rfl (by first | with_reducible assumption | rfl) rfl (by first | with_reducible assumption | ((repeat rewrite [up_k]) <;> first | with_reducible assumption | decide | omega) | exact rfl) ?_
  refine go_if_eq (p := 39) (p2 := 50) hf_18 rfl rfl rfl (fun h36 => ?_) (fun h36 => ?_)
  · refine go_iconst (p := 51) hf_18 rfl rfl ci_0 ?_
    refine go_ret2 hf_18 rfl nl_18 (by first | exact Or.inl rfl | exact Or.inr rfl | with_reducible assumption) ?_
    exact ⟨_, _, rfl, rfl, _, rfl, Or.inr ⟨fun g => z01 h36 g.1, rfl, rfl⟩⟩
  · refine go_al3 (p := 40) hf_18 rfl rfl ?_
    refine go_getr (p := 43) hf_18 ho_18 rfl fl_0_60 rfl (by first | with_reducible assumption | rfl) rfl ?_
    refine go_get (p := 46) hf_18 ho_18 rfl fl_0_63 rfl (by first | with_reducible assumption | rfl) rfl (by first | with_reducible assumption | ((repeat rewrite [up_k]) <;> first | with_reducible assumption | decide | omega) | exact rfl) ?_
    refine go_il2 (p := 47) hf_18 rfl rfl ?_
    refine go_ic_eq (p := 50) (p2 := 52) hf_18 rfl rfl rfl (fun h47 => ?_) (fun h47 => ?_)
    · refine go_al3 (p := 53) hf_18 rfl rfl ?_
      refine go_iconst (p := 54) hf_18 rfl rfl ci_0 ?_
      refine go_put (p := 57) hf_18 ho_18 rfl fl_0_56 rfl (by first | with_reducible assumption | rfl) rfl (Or.inr ⟨rfl, (by first | exact Or.inl rfl | exact Or.inr rfl | with_reducible assumption)⟩) ?_
      refine go_iconst (p := 58) hf_18 rfl rfl ci_1 ?_
      refine go_ret2 hf_18 rfl nl_18 (by first | exact Or.inl rfl | exact Or.inr rfl | with_reducible assumption) ?_
      exact ⟨_, _, rfl, rfl, _, rfl, Or.inl ⟨n01 h3 h36, h47, rfl, rfl⟩⟩
    · refine go_iconst (p := 51) hf_18 rfl rfl ci_0 ?_
      refine go_ret2 hf_18 rfl nl_18 (by first | exact Or.inl rfl | exact Or.inr rfl | with_reducible assumption) ?_
      exact ⟨_, _, rfl, rfl, _, rfl, Or.inr ⟨fun g => h47 g.2, rfl, rfl⟩⟩
theorem c_lock {M : sm_M} {q k : Nat}  (hdv : dvq k q) (h3 : M q 3 = 0 ∨ M q 3 = 1) : cr 20 1 21 [.ref 0, .int (nI k)] M (fun v M1 => ∃ u, v = some (.int u) ∧ ((M q 3 = 0 ∧ u = nI 1 ∧ M1 = sm_up M q 3 (nI 1)) ∨ (M q 3 = 1 ∧ u = nI 0 ∧ M1 = M))) := by
  intro X J rc rs d lw hd hw
  show sm_wp tb_T X tb_ok d lw 20 0 [some (.ref 0), some (.int (nI k))] [] _ _
  have hk := hdv.1
  have hq := hdv.2.1
  have hz := hdv.2.2.1
  have hsh := hdv.2.2.2.1
  obtain ⟨s1, s2, s3, s4⟩ := id hdv.2.2.2.2.1
  have s5 := hdv.2.2.2.2.2
  refine go_il1 (p := 1) hf_20 rfl rfl ?_
  refine go_iconst (p := 2) hf_20 rfl rfl ci_3 ?_
  refine go_cw2 (p := 5) hf_20 rfl rfl (inv_s ho_20 cl_0_48) (by decide) nl_2 rfl rfl rfl rfl rfl rfl (by omega) (by omega) (c_isBelow) ?_
  intro v9 M9 h9
  rewrite [h9.1, h9.2]
  clear h9 v9 M9
  simp only [Option.toList, List.cons_append, List.nil_append]
  refine go_cw1 (p := 8) hf_20 rfl rfl (inv_s ho_20 cl_0_52) (by decide) nl_19 rfl rfl rfl rfl rfl (thr19n (bI_n0.mpr ((below_iff (by omega)).mpr ⟨k, hk, rfl⟩))) (by omega) (by omega) (c_require (bI_n0.mpr ((below_iff (by omega)).mpr ⟨k, hk, rfl⟩))) ?_
  intro v9 M9 h9
  rewrite [h9.1, h9.2]
  clear h9 v9 M9
  simp only [Option.toList, List.cons_append, List.nil_append]
  refine go_al0 (p := 9) hf_20 rfl rfl ?_
  refine go_getr (p := 12) hf_20 ho_20 rfl fl_0_32 rfl (by first | with_reducible assumption | rfl) rfl ?_
  refine go_il1 (p := 13) hf_20 rfl rfl ?_
  refine go_aald (p := 14) hf_20 rfl rfl (by first | with_reducible assumption | rfl) (by first | rfl | with_reducible assumption) (by first | exact rfl | with_reducible assumption) hz ?_
  refine go_get (p := 17) hf_20 ho_20 rfl fl_0_56 rfl (by first | with_reducible assumption | rfl) rfl (by first | with_reducible assumption | ((repeat rewrite [up_k]) <;> first | with_reducible assumption | decide | omega) | exact rfl) ?_
  refine go_if_eq (p := 20) (p2 := 22) hf_20 rfl rfl rfl (fun h17 => ?_) (fun h17 => ?_)
  · refine go_al0 (p := 23) hf_20 rfl rfl ?_
    refine go_getr (p := 26) hf_20 ho_20 rfl fl_0_32 rfl (by first | with_reducible assumption | rfl) rfl ?_
    refine go_il1 (p := 27) hf_20 rfl rfl ?_
    refine go_aald (p := 28) hf_20 rfl rfl (by first | with_reducible assumption | rfl) (by first | rfl | with_reducible assumption) (by first | exact rfl | with_reducible assumption) hz ?_
    refine go_iconst (p := 29) hf_20 rfl rfl ci_1 ?_
    refine go_put (p := 32) hf_20 ho_20 rfl fl_0_56 rfl (by first | with_reducible assumption | rfl) rfl (Or.inr ⟨rfl, (by first | exact Or.inl rfl | exact Or.inr rfl | with_reducible assumption)⟩) ?_
    refine go_iconst (p := 33) hf_20 rfl rfl ci_1 ?_
    refine go_ret2 hf_20 rfl nl_20 (by first | exact Or.inl rfl | exact Or.inr rfl | with_reducible assumption) ?_
    exact ⟨_, _, rfl, rfl, _, rfl, Or.inl ⟨h17, rfl, rfl⟩⟩
  · refine go_iconst (p := 21) hf_20 rfl rfl ci_0 ?_
    refine go_ret2 hf_20 rfl nl_20 (by first | exact Or.inl rfl | exact Or.inr rfl | with_reducible assumption) ?_
    exact ⟨_, _, rfl, rfl, _, rfl, Or.inr ⟨n01 h3 h17, rfl, rfl⟩⟩
theorem c_put {M : sm_M} {q k : Nat} {n1 n2 : Nat} {g ow pw : Nat} {vv : Nat → Nat} {l : List Nat} (hdv : dvq k q) (hn1 : n1 < 4) (hn2 : n2 < 64) (h0 : M q 3 = 0) (hC : dC M q g ow pw vv l) (hv9 : vv k ≤ 30) : cr 21 2 44 [.ref 0, .int (nI k), .int (nI n1), .int (nI n2)] M (fun v M1 => ∃ u, v = some (.int u) ∧ (((30 ≤ vv k ∨ 12 ≤ l.length - (fi n1 l).length) ∧ u = -2 ∧ M1 = M) ∨ (¬ (30 ≤ vv k ∨ 12 ≤ l.length - (fi n1 l).length) ∧ u = nI (vv k + 1) ∧ es M1 (q + 1) (insK id (((n1 * 4 + k) * 32 + (vv k + 1)) * 64 + n2) (fo n1 l)) ∧ (∀ j, j < 3 → M1 (q + 1 + 1) j = nI (if j = k then vv k + 1 else vv j)) ∧ ∀ p j, p ≠ q + 1 + 1 → p ≠ q + 1 + 2 → ¬ (p = q + 1 ∧ j = 5) → M1 p j = M p j))) := by
  intro X J rc rs d lw hd hw
  show sm_wp tb_T X tb_ok d lw 21 0 [some (.ref 0), some (.int (nI k)), some (.int (nI n1)), some (.int (nI n2)), none] [] _ _
  have hk := hdv.1
  have hq := hdv.2.1
  have hz := hdv.2.2.1
  have hsh := hdv.2.2.2.1
  obtain ⟨s1, s2, s3, s4⟩ := id hdv.2.2.2.2.1
  have s5 := hdv.2.2.2.2.2
  have hvk := hC.2.2.2.1 k hk
  have hl5 := hC.2.2.2.2.1
  have hl12 := hC.2.2.2.2.2.1
  have hff := fo_fi (it := n1) l
  refine go_il1 (p := 1) hf_21 rfl rfl ?_
  refine go_iconst (p := 2) hf_21 rfl rfl ci_3 ?_
  refine go_cw2 (p := 5) hf_21 rfl rfl (inv_s ho_21 cl_0_48) (by decide) nl_2 rfl rfl rfl rfl rfl rfl (by omega) (by omega) (c_isBelow) ?_
  intro v9 M9 h9
  rewrite [h9.1, h9.2]
  clear h9 v9 M9
  simp only [Option.toList, List.cons_append, List.nil_append]
  refine go_if_eq (p := 8) (p2 := 29) hf_21 rfl rfl rfl (fun h5 => absurd ((below_iff (by omega)).mpr ⟨k, hk, rfl⟩) (bI_0.mp h5)) (fun h5 => ?_)
  refine go_il2 (p := 9) hf_21 rfl rfl ?_
  refine go_iconst (p := 10) hf_21 rfl rfl ci_4 ?_
  refine go_cw2 (p := 13) hf_21 rfl rfl (inv_s ho_21 cl_0_48) (by decide) nl_2 rfl rfl rfl rfl rfl rfl (by omega) (by omega) (c_isBelow) ?_
  intro v9 M9 h9
  rewrite [h9.1, h9.2]
  clear h9 v9 M9
  simp only [Option.toList, List.cons_append, List.nil_append]
  refine go_if_eq (p := 16) (p2 := 29) hf_21 rfl rfl rfl (fun h13 => absurd ((below_iff (by omega)).mpr ⟨n1, hn1, rfl⟩) (bI_0.mp h13)) (fun h13 => ?_)
  refine go_il3 (p := 17) hf_21 rfl rfl ?_
  refine go_bipush (p := 19) hf_21 rfl rfl cb_64 ?_
  refine go_cw2 (p := 22) hf_21 rfl rfl (inv_s ho_21 cl_0_48) (by decide) nl_2 rfl rfl rfl rfl rfl rfl (by omega) (by omega) (c_isBelow) ?_
  intro v9 M9 h9
  rewrite [h9.1, h9.2]
  clear h9 v9 M9
  simp only [Option.toList, List.cons_append, List.nil_append]
  refine go_if_eq (p := 25) (p2 := 29) hf_21 rfl rfl rfl (fun h22 => absurd ((below_iff (by omega)).mpr ⟨n2, hn2, rfl⟩) (bI_0.mp h22)) (fun h22 => ?_)
  refine go_iconst (p := 26) hf_21 rfl rfl ci_1 ?_
  refine go_goto (p2 := 30) hf_21 rfl rfl ?_
  refine go_cw1 (p := 33) hf_21 rfl rfl (inv_s ho_21 cl_0_52) (by decide) nl_19 rfl rfl rfl rfl rfl (thr19n nI_10) (by omega) (by omega) (c_require nI_10) ?_
  intro v9 M9 h9
  rewrite [h9.1, h9.2]
  clear h9 v9 M9
  simp only [Option.toList, List.cons_append, List.nil_append]
  refine go_al0 (p := 34) hf_21 rfl rfl ?_
  refine go_getr (p := 37) hf_21 ho_21 rfl fl_0_32 rfl (by first | with_reducible assumption | rfl) rfl ?_
  refine go_il1 (p := 38) hf_21 rfl rfl ?_
  refine go_aald (p := 39) hf_21 rfl rfl (by first | with_reducible assumption | rfl) (by first | rfl | with_reducible assumption) (by first | exact rfl | with_reducible assumption) hz ?_
  refine go_cw1 (p := 42) hf_21 rfl rfl (inv_s ho_21 cl_0_66) (by decide) nl_22 rfl rfl rfl rfl rfl (thr22_n hdv h0) (by omega) (by omega) (c_requireOpen hdv h0) ?_
  intro v9 M9 h9
  rewrite [h9.1, h9.2]
  clear h9 v9 M9
  simp only [Option.toList, List.cons_append, List.nil_append]
  refine go_al0 (p := 43) hf_21 rfl rfl ?_
  refine go_getr (p := 46) hf_21 ho_21 rfl fl_0_32 rfl (by first | with_reducible assumption | rfl) rfl ?_
  refine go_il1 (p := 47) hf_21 rfl rfl ?_
  refine go_aald (p := 48) hf_21 rfl rfl (by first | with_reducible assumption | rfl) (by first | rfl | with_reducible assumption) (by first | exact rfl | with_reducible assumption) hz ?_
  refine go_getr (p := 51) hf_21 ho_21 rfl fl_0_60 rfl (by first | with_reducible assumption | rfl) rfl ?_
  refine go_as4 (p := 53) hf_21 rfl rfl ?_
  refine go_al4 (p := 55) hf_21 rfl rfl ?_
  refine go_getr (p := 58) hf_21 ho_21 rfl fl_0_70 rfl (by first | with_reducible assumption | rfl) rfl ?_
  refine go_il1 (p := 59) hf_21 rfl rfl ?_
  refine go_iald (p := 60) hf_21 rfl rfl (by first | with_reducible assumption | rfl) (by first | rfl | with_reducible assumption) (by first | exact rfl | with_reducible assumption) (by omega) hvk ?_
  refine go_bipush (p := 62) hf_21 rfl rfl cb_30 ?_
  first | refine go_nn_ge (p := 65) (p2 := 82) hf_21 rfl rfl rfl (by omega) (by omega) (fun h62 => ?_) (fun h62 => ?_) | refine go_ic_ge (p := 65) (p2 := 82) hf_21 rfl rfl rfl (fun h62 => ?_) (fun h62 => ?_)
  · refine go_bipush (p := 84) hf_21 rfl rfl cb_m2 ?_
    refine go_ret1 hf_21 rfl nl_21 ?_
    exact ⟨_, _, rfl, rfl, _, rfl, Or.inl ⟨Or.inl h62, rfl, rfl⟩⟩
  · refine go_al4 (p := 67) hf_21 rfl rfl ?_
    refine go_get (p := 70) hf_21 ho_21 rfl fl_0_74 rfl (by first | with_reducible assumption | rfl) rfl hl5 ?_
    refine go_al4 (p := 72) hf_21 rfl rfl ?_
    refine go_il2 (p := 73) hf_21 rfl rfl ?_
    refine go_cw2 (p := 76) hf_21 rfl rfl (inv_v ho_21 cl_0_77) (by decide) nl_69 rfl rfl (by first | rfl | exact rcv_of (by with_reducible assumption)) rfl rfl rfl (by omega) (by omega) (c_countI hdv.2.2.2.2.1 hC.2.2.2.2 hn1) ?_
    intro v9 M9 h9
    rewrite [h9.1, h9.2]
    clear h9 v9 M9
    simp only [Option.toList, List.cons_append, List.nil_append]
    refine go_isub (p := 77) hf_21 rfl rfl (subn (List.length_filter_le _ _)) ?_
    refine go_bipush (p := 79) hf_21 rfl rfl cb_12 ?_
    first | refine go_nn_lt (p := 82) (p2 := 85) hf_21 rfl rfl rfl (by omega) (by omega) (fun h79 => ?_) (fun h79 => ?_) | refine go_ic_lt (p := 82) (p2 := 85) hf_21 rfl rfl rfl (fun h79 => ?_) (fun h79 => ?_)
    · refine go_al4 (p := 87) hf_21 rfl rfl ?_
      refine go_il2 (p := 88) hf_21 rfl rfl ?_
      refine go_cw2 (p := 91) hf_21 rfl rfl (inv_v ho_21 cl_0_81) (by decide) nl_70 rfl rfl (by first | rfl | exact rcv_of (by with_reducible assumption)) rfl rfl rfl (by omega) (by omega) (c_removeAll hdv.2.2.2.2.1 hC.2.2.2.2 hn1) ?_
      rintro v9 M2 ⟨rfl, e2, f2⟩
      simp only [Option.toList, List.cons_append, List.nil_append]
      refine go_al4 (p := 93) hf_21 rfl rfl ?_
      refine go_getr (p := 96) hf_21 ho_21 rfl fl_0_70 rfl (by first | with_reducible assumption | rfl) rfl ?_
      refine go_il1 (p := 97) hf_21 rfl rfl ?_
      refine go_dup2 (p := 98) hf_21 rfl rfl ?_
      refine go_iald (p := 99) hf_21 rfl rfl (by first | with_reducible assumption | rfl) (by first | rfl | with_reducible assumption) (by first | exact rfl | with_reducible assumption) (by omega) ((f2 _ _ (by omega) (by omega)).trans hvk) ?_
      refine go_iconst (p := 100) hf_21 rfl rfl ci_1 ?_
      refine go_iadd (p := 101) hf_21 rfl rfl (by first | with_reducible exact nI_add _ _ | exact rfl) ?_
      refine go_iast (p := 102) hf_21 rfl rfl (by first | with_reducible assumption | rfl) (by first | rfl | with_reducible assumption) (by first | exact rfl | with_reducible assumption) (by omega) ?_
      have e3 : es (sm_up M2 (q + 1 + 1) k (nI (vv k + 1))) (q + 1) (fo n1 l) := es_keep e2 (by unfold sm_up; rw [if_neg (by omega)]) (by unfold sm_up; rw [if_neg (by omega)])
      refine go_al4 (p := 104) hf_21 rfl rfl ?_
      refine go_il2 (p := 105) hf_21 rfl rfl ?_
      refine go_il1 (p := 106) hf_21 rfl rfl ?_
      refine go_al4 (p := 108) hf_21 rfl rfl ?_
      refine go_getr (p := 111) hf_21 ho_21 rfl fl_0_70 rfl (by first | with_reducible assumption | rfl) rfl ?_
      refine go_il1 (p := 112) hf_21 rfl rfl ?_
      refine go_iald (p := 113) hf_21 rfl rfl (by first | with_reducible assumption | rfl) (by first | rfl | with_reducible assumption) (by first | exact rfl | with_reducible assumption) (by omega) up_s ?_
      refine go_il3 (p := 114) hf_21 rfl rfl ?_
      refine go_cw4 (p := 117) hf_21 rfl rfl (inv_s ho_21 cl_0_85) (by decide) nl_125 rfl rfl rfl rfl rfl rfl (by omega) (by omega) (c_pack hn1 (by omega) (by omega) hn2) ?_
      intro v9 M9 h9
      rewrite [h9.1, h9.2]
      clear h9 v9 M9
      simp only [Option.toList, List.cons_append, List.nil_append]
      refine go_cw2 (p := 120) hf_21 rfl rfl (inv_v ho_21 cl_0_91) (by decide) nl_62 rfl rfl (by first | rfl | exact rcv_of (by with_reducible assumption)) rfl rfl rfl (by omega) (by omega) (c_insert (l := fo n1 l) hdv.2.2.2.2.1 e3 (by omega) (by omega)) ?_
      rintro v9 M3 ⟨rfl, e4, f3⟩
      simp only [Option.toList, List.cons_append, List.nil_append]
      refine go_al4 (p := 122) hf_21 rfl rfl ?_
      refine go_getr (p := 125) hf_21 ho_21 rfl fl_0_70 rfl (by first | with_reducible assumption | rfl) rfl ?_
      refine go_il1 (p := 126) hf_21 rfl rfl ?_
      refine go_iald (p := 127) hf_21 rfl rfl (by first | with_reducible assumption | rfl) (by first | rfl | with_reducible assumption) (by first | exact rfl | with_reducible assumption) (by omega) ((f3 _ _ (by omega) (by omega)).trans up_s) ?_
      refine go_ret1 hf_21 rfl nl_21 ?_
      refine ⟨_, _, rfl, rfl, _, rfl, Or.inr ⟨by omega, rfl, e4, fun j hj => ?_, fun p j h1 h2 h3 => ?_⟩⟩
      · rw [f3 _ _ (by omega) (by omega)]
        by_cases e : j = k
        · subst e; rw [up_s, if_pos rfl]
        · rw [up_i e, if_neg e, f2 _ _ (by omega) (by omega)]; exact hC.2.2.2.1 j hj
      · rw [f3 _ _ h3 h2, up_k h1, f2 _ _ h3 h2]
    · refine go_bipush (p := 84) hf_21 rfl rfl cb_m2 ?_
      refine go_ret1 hf_21 rfl nl_21 ?_
      exact ⟨_, _, rfl, rfl, _, rfl, Or.inl ⟨Or.inr (by omega), rfl, rfl⟩⟩
theorem c_erase {M : sm_M} {q k : Nat} {n1 : Nat} {g ow pw : Nat} {vv : Nat → Nat} {l : List Nat} (hdv : dvq k q) (hn1 : n1 < 4) (h0 : M q 3 = 0) (hC : dC M q g ow pw vv l) (hv9 : vv k ≤ 30) : cr 23 2 43 [.ref 0, .int (nI k), .int (nI n1)] M (fun v M1 => ∃ u, v = some (.int u) ∧ ((30 ≤ vv k ∧ u = -2 ∧ M1 = M) ∨ (¬ 30 ≤ vv k ∧ (fi n1 l).length = 0 ∧ u = -1 ∧ M1 = M) ∨ (¬ 30 ≤ vv k ∧ ¬ (fi n1 l).length = 0 ∧ u = nI (fi n1 l).length ∧ es M1 (q + 1) (fo n1 l) ∧ (∀ j, j < 3 → M1 (q + 1 + 1) j = nI (if j = k then vv k + 1 else vv j)) ∧ ∀ p j, p ≠ q + 1 + 1 → p ≠ q + 1 + 2 → ¬ (p = q + 1 ∧ j = 5) → M1 p j = M p j))) := by
  intro X J rc rs d lw hd hw
  show sm_wp tb_T X tb_ok d lw 23 0 [some (.ref 0), some (.int (nI k)), some (.int (nI n1)), none, none] [] _ _
  have hk := hdv.1
  have hq := hdv.2.1
  have hz := hdv.2.2.1
  have hsh := hdv.2.2.2.1
  obtain ⟨s1, s2, s3, s4⟩ := id hdv.2.2.2.2.1
  have s5 := hdv.2.2.2.2.2
  have hvk := hC.2.2.2.1 k hk
  have hl12 := hC.2.2.2.2.2.1
  have hff := fo_fi (it := n1) l
  refine go_il1 (p := 1) hf_23 rfl rfl ?_
  refine go_iconst (p := 2) hf_23 rfl rfl ci_3 ?_
  refine go_cw2 (p := 5) hf_23 rfl rfl (inv_s ho_23 cl_0_48) (by decide) nl_2 rfl rfl rfl rfl rfl rfl (by omega) (by omega) (c_isBelow) ?_
  intro v9 M9 h9
  rewrite [h9.1, h9.2]
  clear h9 v9 M9
  simp only [Option.toList, List.cons_append, List.nil_append]
  refine go_if_eq (p := 8) (p2 := 20) hf_23 rfl rfl rfl (fun h5 => absurd ((below_iff (by omega)).mpr ⟨k, hk, rfl⟩) (bI_0.mp h5)) (fun h5 => ?_)
  refine go_il2 (p := 9) hf_23 rfl rfl ?_
  refine go_iconst (p := 10) hf_23 rfl rfl ci_4 ?_
  refine go_cw2 (p := 13) hf_23 rfl rfl (inv_s ho_23 cl_0_48) (by decide) nl_2 rfl rfl rfl rfl rfl rfl (by omega) (by omega) (c_isBelow) ?_
  intro v9 M9 h9
  rewrite [h9.1, h9.2]
  clear h9 v9 M9
  simp only [Option.toList, List.cons_append, List.nil_append]
  refine go_if_eq (p := 16) (p2 := 20) hf_23 rfl rfl rfl (fun h13 => absurd ((below_iff (by omega)).mpr ⟨n1, hn1, rfl⟩) (bI_0.mp h13)) (fun h13 => ?_)
  refine go_iconst (p := 17) hf_23 rfl rfl ci_1 ?_
  refine go_goto (p2 := 21) hf_23 rfl rfl ?_
  refine go_cw1 (p := 24) hf_23 rfl rfl (inv_s ho_23 cl_0_52) (by decide) nl_19 rfl rfl rfl rfl rfl (thr19n nI_10) (by omega) (by omega) (c_require nI_10) ?_
  intro v9 M9 h9
  rewrite [h9.1, h9.2]
  clear h9 v9 M9
  simp only [Option.toList, List.cons_append, List.nil_append]
  refine go_al0 (p := 25) hf_23 rfl rfl ?_
  refine go_getr (p := 28) hf_23 ho_23 rfl fl_0_32 rfl (by first | with_reducible assumption | rfl) rfl ?_
  refine go_il1 (p := 29) hf_23 rfl rfl ?_
  refine go_aald (p := 30) hf_23 rfl rfl (by first | with_reducible assumption | rfl) (by first | rfl | with_reducible assumption) (by first | exact rfl | with_reducible assumption) hz ?_
  refine go_cw1 (p := 33) hf_23 rfl rfl (inv_s ho_23 cl_0_66) (by decide) nl_22 rfl rfl rfl rfl rfl (thr22_n hdv h0) (by omega) (by omega) (c_requireOpen hdv h0) ?_
  intro v9 M9 h9
  rewrite [h9.1, h9.2]
  clear h9 v9 M9
  simp only [Option.toList, List.cons_append, List.nil_append]
  refine go_al0 (p := 34) hf_23 rfl rfl ?_
  refine go_getr (p := 37) hf_23 ho_23 rfl fl_0_32 rfl (by first | with_reducible assumption | rfl) rfl ?_
  refine go_il1 (p := 38) hf_23 rfl rfl ?_
  refine go_aald (p := 39) hf_23 rfl rfl (by first | with_reducible assumption | rfl) (by first | rfl | with_reducible assumption) (by first | exact rfl | with_reducible assumption) hz ?_
  refine go_getr (p := 42) hf_23 ho_23 rfl fl_0_60 rfl (by first | with_reducible assumption | rfl) rfl ?_
  refine go_as3 (p := 43) hf_23 rfl rfl ?_
  refine go_al3 (p := 44) hf_23 rfl rfl ?_
  refine go_getr (p := 47) hf_23 ho_23 rfl fl_0_70 rfl (by first | with_reducible assumption | rfl) rfl ?_
  refine go_il1 (p := 48) hf_23 rfl rfl ?_
  refine go_iald (p := 49) hf_23 rfl rfl (by first | with_reducible assumption | rfl) (by first | rfl | with_reducible assumption) (by first | exact rfl | with_reducible assumption) (by omega) hvk ?_
  refine go_bipush (p := 51) hf_23 rfl rfl cb_30 ?_
  first | refine go_nn_lt (p := 54) (p2 := 57) hf_23 rfl rfl rfl (by omega) (by omega) (fun h51 => ?_) (fun h51 => ?_) | refine go_ic_lt (p := 54) (p2 := 57) hf_23 rfl rfl rfl (fun h51 => ?_) (fun h51 => ?_)
  · refine go_al3 (p := 58) hf_23 rfl rfl ?_
    refine go_il2 (p := 59) hf_23 rfl rfl ?_
    refine go_cw2 (p := 62) hf_23 rfl rfl (inv_v ho_23 cl_0_77) (by decide) nl_69 rfl rfl (by first | rfl | exact rcv_of (by with_reducible assumption)) rfl rfl rfl (by omega) (by omega) (c_countI hdv.2.2.2.2.1 hC.2.2.2.2 hn1) ?_
    intro v9 M9 h9
    rewrite [h9.1, h9.2]
    clear h9 v9 M9
    simp only [Option.toList, List.cons_append, List.nil_append]
    refine go_is4 (p := 64) hf_23 rfl rfl ?_
    refine go_il4 (p := 66) hf_23 rfl rfl ?_
    refine go_if_ne (p := 69) (p2 := 71) hf_23 rfl rfl rfl (fun h66 => ?_) (fun h66 => ?_)
    · refine go_al3 (p := 72) hf_23 rfl rfl ?_
      refine go_il2 (p := 73) hf_23 rfl rfl ?_
      refine go_cw2 (p := 76) hf_23 rfl rfl (inv_v ho_23 cl_0_81) (by decide) nl_70 rfl rfl (by first | rfl | exact rcv_of (by with_reducible assumption)) rfl rfl rfl (by omega) (by omega) (c_removeAll hdv.2.2.2.2.1 hC.2.2.2.2 hn1) ?_
      rintro v9 M2 ⟨rfl, e2, f2⟩
      simp only [Option.toList, List.cons_append, List.nil_append]
      refine go_al3 (p := 77) hf_23 rfl rfl ?_
      refine go_getr (p := 80) hf_23 ho_23 rfl fl_0_70 rfl (by first | with_reducible assumption | rfl) rfl ?_
      refine go_il1 (p := 81) hf_23 rfl rfl ?_
      refine go_dup2 (p := 82) hf_23 rfl rfl ?_
      refine go_iald (p := 83) hf_23 rfl rfl (by first | with_reducible assumption | rfl) (by first | rfl | with_reducible assumption) (by first | exact rfl | with_reducible assumption) (by omega) ((f2 _ _ (by omega) (by omega)).trans hvk) ?_
      refine go_iconst (p := 84) hf_23 rfl rfl ci_1 ?_
      refine go_iadd (p := 85) hf_23 rfl rfl (by first | with_reducible exact nI_add _ _ | exact rfl) ?_
      refine go_iast (p := 86) hf_23 rfl rfl (by first | with_reducible assumption | rfl) (by first | rfl | with_reducible assumption) (by first | exact rfl | with_reducible assumption) (by omega) ?_
      refine go_il4 (p := 88) hf_23 rfl rfl ?_
      refine go_ret1 hf_23 rfl nl_23 ?_
      have e0 : ¬ (fi n1 l).length = 0 := fun e => h66 (by rw [e]; rfl)
      refine ⟨_, _, rfl, rfl, _, rfl, Or.inr (Or.inr ⟨by omega, e0, rfl, es_keep e2 (by unfold sm_up; rw [if_neg (by omega)]) (by unfold sm_up; rw [if_neg (by omega)]), fun j hj => ?_, fun p j h1 h2 h3 => ?_⟩)⟩
      · by_cases e : j = k
        · subst e; rw [up_s, if_pos rfl]
        · rw [up_i e, if_neg e, f2 _ _ (by omega) (by omega)]; exact hC.2.2.2.1 j hj
      · rw [up_k h1, f2 _ _ h3 h2]
    · refine go_iconst (p := 70) hf_23 rfl rfl ci_m1 ?_
      refine go_ret1 hf_23 rfl nl_23 ?_
      have e0 : (fi n1 l).length = 0 := (nI_eq (b := 0) (by omega) (by omega)).mp h66
      exact ⟨_, _, rfl, rfl, _, rfl, Or.inr (Or.inl ⟨by omega, e0, rfl, rfl⟩)⟩
  · refine go_bipush (p := 56) hf_23 rfl rfl cb_m2 ?_
    refine go_ret1 hf_23 rfl nl_23 ?_
    exact ⟨_, _, rfl, rfl, _, rfl, Or.inl ⟨by omega, rfl, rfl⟩⟩
theorem c_get {M : sm_M} {q k : Nat} {n1 : Nat} {a2 : Int32} {g ow pw : Nat} {vv : Nat → Nat} {l : List Nat} (hdv : dvq k q) (hn1 : n1 < 4) (h0 : M q 3 = 0) (hC : dC M q g ow pw vv l) : cr 24 2 44 [.ref 0, .int (nI k), .int (nI n1), .int a2] M (fun v M1 => M1 = M ∧ ∃ u, v = some (.int u) ∧ ((a2 = -1 ∧ u = nI (fi n1 l).length) ∨ (¬ a2 = -1 ∧ ((∃ j w, a2 = nI j ∧ (fi n1 l)[j]? = some w ∧ u = nI (w % 64)) ∨ ((∀ j, j < (fi n1 l).length → ¬ a2 = nI j) ∧ u = -1))))) := by
  intro X J rc rs d lw hd hw
  show sm_wp tb_T X tb_ok d lw 24 0 [some (.ref 0), some (.int (nI k)), some (.int (nI n1)), some (.int a2), none] [] _ _
  have hk := hdv.1
  have hq := hdv.2.1
  have hz := hdv.2.2.1
  have hsh := hdv.2.2.2.1
  obtain ⟨s1, s2, s3, s4⟩ := id hdv.2.2.2.2.1
  have s5 := hdv.2.2.2.2.2
  refine go_il1 (p := 1) hf_24 rfl rfl ?_
  refine go_iconst (p := 2) hf_24 rfl rfl ci_3 ?_
  refine go_cw2 (p := 5) hf_24 rfl rfl (inv_s ho_24 cl_0_48) (by decide) nl_2 rfl rfl rfl rfl rfl rfl (by omega) (by omega) (c_isBelow) ?_
  intro v9 M9 h9
  rewrite [h9.1, h9.2]
  clear h9 v9 M9
  simp only [Option.toList, List.cons_append, List.nil_append]
  refine go_if_eq (p := 8) (p2 := 20) hf_24 rfl rfl rfl (fun h5 => absurd ((below_iff (by omega)).mpr ⟨k, hk, rfl⟩) (bI_0.mp h5)) (fun h5 => ?_)
  refine go_il2 (p := 9) hf_24 rfl rfl ?_
  refine go_iconst (p := 10) hf_24 rfl rfl ci_4 ?_
  refine go_cw2 (p := 13) hf_24 rfl rfl (inv_s ho_24 cl_0_48) (by decide) nl_2 rfl rfl rfl rfl rfl rfl (by omega) (by omega) (c_isBelow) ?_
  intro v9 M9 h9
  rewrite [h9.1, h9.2]
  clear h9 v9 M9
  simp only [Option.toList, List.cons_append, List.nil_append]
  refine go_if_eq (p := 16) (p2 := 20) hf_24 rfl rfl rfl (fun h13 => absurd ((below_iff (by omega)).mpr ⟨n1, hn1, rfl⟩) (bI_0.mp h13)) (fun h13 => ?_)
  refine go_iconst (p := 17) hf_24 rfl rfl ci_1 ?_
  refine go_goto (p2 := 21) hf_24 rfl rfl ?_
  refine go_cw1 (p := 24) hf_24 rfl rfl (inv_s ho_24 cl_0_52) (by decide) nl_19 rfl rfl rfl rfl rfl (thr19n nI_10) (by omega) (by omega) (c_require nI_10) ?_
  intro v9 M9 h9
  rewrite [h9.1, h9.2]
  clear h9 v9 M9
  simp only [Option.toList, List.cons_append, List.nil_append]
  refine go_al0 (p := 25) hf_24 rfl rfl ?_
  refine go_getr (p := 28) hf_24 ho_24 rfl fl_0_32 rfl (by first | with_reducible assumption | rfl) rfl ?_
  refine go_il1 (p := 29) hf_24 rfl rfl ?_
  refine go_aald (p := 30) hf_24 rfl rfl (by first | with_reducible assumption | rfl) (by first | rfl | with_reducible assumption) (by first | exact rfl | with_reducible assumption) hz ?_
  refine go_cw1 (p := 33) hf_24 rfl rfl (inv_s ho_24 cl_0_66) (by decide) nl_22 rfl rfl rfl rfl rfl (thr22_n hdv h0) (by omega) (by omega) (c_requireOpen hdv h0) ?_
  intro v9 M9 h9
  rewrite [h9.1, h9.2]
  clear h9 v9 M9
  simp only [Option.toList, List.cons_append, List.nil_append]
  refine go_al0 (p := 34) hf_24 rfl rfl ?_
  refine go_getr (p := 37) hf_24 ho_24 rfl fl_0_32 rfl (by first | with_reducible assumption | rfl) rfl ?_
  refine go_il1 (p := 38) hf_24 rfl rfl ?_
  refine go_aald (p := 39) hf_24 rfl rfl (by first | with_reducible assumption | rfl) (by first | rfl | with_reducible assumption) (by first | exact rfl | with_reducible assumption) hz ?_
  refine go_getr (p := 42) hf_24 ho_24 rfl fl_0_60 rfl (by first | with_reducible assumption | rfl) rfl ?_
  refine go_as4 (p := 44) hf_24 rfl rfl ?_
  refine go_il3 (p := 45) hf_24 rfl rfl ?_
  refine go_iconst (p := 46) hf_24 rfl rfl ci_m1 ?_
  refine go_ic_ne (p := 49) (p2 := 58) hf_24 rfl rfl rfl (fun h46 => ?_) (fun h46 => ?_)
  · refine go_al4 (p := 60) hf_24 rfl rfl ?_
    refine go_il2 (p := 61) hf_24 rfl rfl ?_
    refine go_il3 (p := 62) hf_24 rfl rfl ?_
    refine go_cw3 (p := 65) hf_24 rfl rfl (inv_v ho_24 cl_0_94) (by decide) nl_71 rfl rfl (by first | rfl | exact rcv_of (by with_reducible assumption)) rfl rfl rfl (by omega) (by omega) (c_contentAt hdv.2.2.2.2.1 hC.2.2.2.2 hn1) ?_
    rintro v9 M2 ⟨hv9, rfl⟩
    obtain ⟨u9, rfl, hu9⟩ : ∃ u, v9 = some (.int u) ∧ ((∃ j w, a2 = nI j ∧ (fi n1 l)[j]? = some w ∧ u = nI (w % 64)) ∨ ((∀ j, j < (fi n1 l).length → ¬ a2 = nI j) ∧ u = -1)) := by
      rcases hv9 with ⟨j, w, e1, e2, e3⟩ | ⟨e1, e2⟩
      · exact ⟨_, e3, Or.inl ⟨j, w, e1, e2, rfl⟩⟩
      · exact ⟨_, e2, Or.inr ⟨e1, rfl⟩⟩
    simp only [Option.toList, List.cons_append, List.nil_append]
    refine go_ret1 hf_24 rfl nl_24 ?_
    exact ⟨_, _, rfl, rfl, rfl, _, rfl, Or.inr ⟨h46, hu9⟩⟩
  · refine go_al4 (p := 51) hf_24 rfl rfl ?_
    refine go_il2 (p := 52) hf_24 rfl rfl ?_
    refine go_cw2 (p := 55) hf_24 rfl rfl (inv_v ho_24 cl_0_77) (by decide) nl_69 rfl rfl (by first | rfl | exact rcv_of (by with_reducible assumption)) rfl rfl rfl (by omega) (by omega) (c_countI hdv.2.2.2.2.1 hC.2.2.2.2 hn1) ?_
    intro v9 M9 h9
    rewrite [h9.1, h9.2]
    clear h9 v9 M9
    simp only [Option.toList, List.cons_append, List.nil_append]
    refine go_goto (p2 := 65) hf_24 rfl rfl ?_
    refine go_ret1 hf_24 rfl nl_24 ?_
    exact ⟨_, _, rfl, rfl, rfl, _, rfl, Or.inl ⟨h46, rfl⟩⟩
theorem c_change {M : sm_M} {q k : Nat} {n1 : Nat} {g ow pw : Nat} {vv : Nat → Nat} {l : List Nat} (hdv : dvq k q) (hn1 : n1 < 8) (h0 : M q 3 = 0) (hC : dC M q g ow pw vv l) (hg9 : g ≤ 30) : cr 25 1 23 [.ref 0, .int (nI k), .int (nI n1)] M (fun v M1 => ∃ u, v = some (.int u) ∧ ((30 ≤ g ∧ u = -2 ∧ M1 = M) ∨ (¬ 30 ≤ g ∧ u = nI (g + 1) ∧ M1 = sm_up (sm_up (sm_up M (q + 1) 0 (nI (g + 1))) (q + 1) 1 (nI k)) (q + 1) 2 (nI n1)))) := by
  intro X J rc rs d lw hd hw
  show sm_wp tb_T X tb_ok d lw 25 0 [some (.ref 0), some (.int (nI k)), some (.int (nI n1)), none] [] _ _
  have hk := hdv.1
  have hq := hdv.2.1
  have hz := hdv.2.2.1
  have hsh := hdv.2.2.2.1
  obtain ⟨s1, s2, s3, s4⟩ := id hdv.2.2.2.2.1
  have s5 := hdv.2.2.2.2.2
  have hg := hC.1
  refine go_il1 (p := 1) hf_25 rfl rfl ?_
  refine go_iconst (p := 2) hf_25 rfl rfl ci_3 ?_
  refine go_cw2 (p := 5) hf_25 rfl rfl (inv_s ho_25 cl_0_48) (by decide) nl_2 rfl rfl rfl rfl rfl rfl (by omega) (by omega) (c_isBelow) ?_
  intro v9 M9 h9
  rewrite [h9.1, h9.2]
  clear h9 v9 M9
  simp only [Option.toList, List.cons_append, List.nil_append]
  refine go_if_eq (p := 8) (p2 := 21) hf_25 rfl rfl rfl (fun h5 => absurd ((below_iff (by omega)).mpr ⟨k, hk, rfl⟩) (bI_0.mp h5)) (fun h5 => ?_)
  refine go_il2 (p := 9) hf_25 rfl rfl ?_
  refine go_bipush (p := 11) hf_25 rfl rfl cb_8 ?_
  refine go_cw2 (p := 14) hf_25 rfl rfl (inv_s ho_25 cl_0_48) (by decide) nl_2 rfl rfl rfl rfl rfl rfl (by omega) (by omega) (c_isBelow) ?_
  intro v9 M9 h9
  rewrite [h9.1, h9.2]
  clear h9 v9 M9
  simp only [Option.toList, List.cons_append, List.nil_append]
  refine go_if_eq (p := 17) (p2 := 21) hf_25 rfl rfl rfl (fun h14 => absurd ((below_iff (by omega)).mpr ⟨n1, hn1, rfl⟩) (bI_0.mp h14)) (fun h14 => ?_)
  refine go_iconst (p := 18) hf_25 rfl rfl ci_1 ?_
  refine go_goto (p2 := 22) hf_25 rfl rfl ?_
  refine go_cw1 (p := 25) hf_25 rfl rfl (inv_s ho_25 cl_0_52) (by decide) nl_19 rfl rfl rfl rfl rfl (thr19n nI_10) (by omega) (by omega) (c_require nI_10) ?_
  intro v9 M9 h9
  rewrite [h9.1, h9.2]
  clear h9 v9 M9
  simp only [Option.toList, List.cons_append, List.nil_append]
  refine go_al0 (p := 26) hf_25 rfl rfl ?_
  refine go_getr (p := 29) hf_25 ho_25 rfl fl_0_32 rfl (by first | with_reducible assumption | rfl) rfl ?_
  refine go_il1 (p := 30) hf_25 rfl rfl ?_
  refine go_aald (p := 31) hf_25 rfl rfl (by first | with_reducible assumption | rfl) (by first | rfl | with_reducible assumption) (by first | exact rfl | with_reducible assumption) hz ?_
  refine go_cw1 (p := 34) hf_25 rfl rfl (inv_s ho_25 cl_0_66) (by decide) nl_22 rfl rfl rfl rfl rfl (thr22_n hdv h0) (by omega) (by omega) (c_requireOpen hdv h0) ?_
  intro v9 M9 h9
  rewrite [h9.1, h9.2]
  clear h9 v9 M9
  simp only [Option.toList, List.cons_append, List.nil_append]
  refine go_al0 (p := 35) hf_25 rfl rfl ?_
  refine go_getr (p := 38) hf_25 ho_25 rfl fl_0_32 rfl (by first | with_reducible assumption | rfl) rfl ?_
  refine go_il1 (p := 39) hf_25 rfl rfl ?_
  refine go_aald (p := 40) hf_25 rfl rfl (by first | with_reducible assumption | rfl) (by first | rfl | with_reducible assumption) (by first | exact rfl | with_reducible assumption) hz ?_
  refine go_getr (p := 43) hf_25 ho_25 rfl fl_0_60 rfl (by first | with_reducible assumption | rfl) rfl ?_
  refine go_as3 (p := 44) hf_25 rfl rfl ?_
  refine go_al3 (p := 45) hf_25 rfl rfl ?_
  refine go_get (p := 48) hf_25 ho_25 rfl fl_0_98 rfl (by first | with_reducible assumption | rfl) rfl hg ?_
  refine go_bipush (p := 50) hf_25 rfl rfl cb_30 ?_
  first | refine go_nn_lt (p := 53) (p2 := 56) hf_25 rfl rfl rfl (by omega) (by omega) (fun h50 => ?_) (fun h50 => ?_) | refine go_ic_lt (p := 53) (p2 := 56) hf_25 rfl rfl rfl (fun h50 => ?_) (fun h50 => ?_)
  · refine go_al3 (p := 57) hf_25 rfl rfl ?_
    refine go_al3 (p := 58) hf_25 rfl rfl ?_
    refine go_get (p := 61) hf_25 ho_25 rfl fl_0_98 rfl (by first | with_reducible assumption | rfl) rfl hg ?_
    refine go_iconst (p := 62) hf_25 rfl rfl ci_1 ?_
    refine go_iadd (p := 63) hf_25 rfl rfl (by first | with_reducible exact nI_add _ _ | exact rfl) ?_
    refine go_il1 (p := 64) hf_25 rfl rfl ?_
    refine go_il2 (p := 65) hf_25 rfl rfl ?_
    refine go_cw4 (p := 68) hf_25 rfl rfl (inv_v ho_25 cl_0_101) (by decide) nl_59 rfl rfl (by first | rfl | exact rcv_of (by with_reducible assumption)) rfl rfl rfl (by omega) (by omega) (c_takeHeader hdv.2.2.2.2.1) ?_
    intro v9 M9 h9
    rewrite [h9.1, h9.2]
    clear h9 v9 M9
    simp only [Option.toList, List.cons_append, List.nil_append]
    refine go_al3 (p := 69) hf_25 rfl rfl ?_
    refine go_get (p := 72) hf_25 ho_25 rfl fl_0_98 rfl (by first | with_reducible assumption | rfl) rfl ((up_i (by omega)).trans ((up_i (by omega)).trans up_s)) ?_
    refine go_ret1 hf_25 rfl nl_25 ?_
    exact ⟨_, _, rfl, rfl, _, rfl, Or.inr ⟨by omega, rfl, rfl⟩⟩
  · refine go_bipush (p := 55) hf_25 rfl rfl cb_m2 ?_
    refine go_ret1 hf_25 rfl nl_25 ?_
    exact ⟨_, _, rfl, rfl, _, rfl, Or.inl ⟨by omega, rfl, rfl⟩⟩
theorem c_pull {M : sm_M} {q k : Nat} {ms : List (Int32 × Int32 × Int32 × Int32)} (hdv : dvq k q) (h0 : M q 3 = 0) (hm : ml (M 12 4) (M 13) (M 14) (M 15) (M 16) ms) : cr 26 1 24 [.ref 0, .int (nI k)] M (fun v M1 => v = some (.int (nI 1)) ∧ ml (M1 12 4) (M1 13) (M1 14) (M1 15) (M1 16) (if ms.length < 12 then ms ++ [(nI 0, nI k, -1, -1)] else ms) ∧ ∀ p, (p < 12 ∨ 16 < p) → M1 p = M p) := by
  intro X J rc rs d lw hd hw
  show sm_wp tb_T X tb_ok d lw 26 0 [some (.ref 0), some (.int (nI k))] [] _ _
  have hk := hdv.1
  have hq := hdv.2.1
  have hz := hdv.2.2.1
  have hsh := hdv.2.2.2.1
  obtain ⟨s1, s2, s3, s4⟩ := id hdv.2.2.2.2.1
  have s5 := hdv.2.2.2.2.2
  refine go_il1 (p := 1) hf_26 rfl rfl ?_
  refine go_iconst (p := 2) hf_26 rfl rfl ci_3 ?_
  refine go_cw2 (p := 5) hf_26 rfl rfl (inv_s ho_26 cl_0_48) (by decide) nl_2 rfl rfl rfl rfl rfl rfl (by omega) (by omega) (c_isBelow) ?_
  intro v9 M9 h9
  rewrite [h9.1, h9.2]
  clear h9 v9 M9
  simp only [Option.toList, List.cons_append, List.nil_append]
  refine go_cw1 (p := 8) hf_26 rfl rfl (inv_s ho_26 cl_0_52) (by decide) nl_19 rfl rfl rfl rfl rfl (thr19n (bI_n0.mpr ((below_iff (by omega)).mpr ⟨k, hk, rfl⟩))) (by omega) (by omega) (c_require (bI_n0.mpr ((below_iff (by omega)).mpr ⟨k, hk, rfl⟩))) ?_
  intro v9 M9 h9
  rewrite [h9.1, h9.2]
  clear h9 v9 M9
  simp only [Option.toList, List.cons_append, List.nil_append]
  refine go_al0 (p := 9) hf_26 rfl rfl ?_
  refine go_getr (p := 12) hf_26 ho_26 rfl fl_0_32 rfl (by first | with_reducible assumption | rfl) rfl ?_
  refine go_il1 (p := 13) hf_26 rfl rfl ?_
  refine go_aald (p := 14) hf_26 rfl rfl (by first | with_reducible assumption | rfl) (by first | rfl | with_reducible assumption) (by first | exact rfl | with_reducible assumption) hz ?_
  refine go_cw1 (p := 17) hf_26 rfl rfl (inv_s ho_26 cl_0_66) (by decide) nl_22 rfl rfl rfl rfl rfl (thr22_n hdv h0) (by omega) (by omega) (c_requireOpen hdv h0) ?_
  intro v9 M9 h9
  rewrite [h9.1, h9.2]
  clear h9 v9 M9
  simp only [Option.toList, List.cons_append, List.nil_append]
  refine go_al0 (p := 18) hf_26 rfl rfl ?_
  refine go_getr (p := 21) hf_26 ho_26 rfl fl_0_26 rfl (by first | with_reducible assumption | rfl) rfl ?_
  refine go_iconst (p := 22) hf_26 rfl rfl ci_0 ?_
  refine go_il1 (p := 23) hf_26 rfl rfl ?_
  refine go_iconst (p := 24) hf_26 rfl rfl ci_m1 ?_
  refine go_iconst (p := 25) hf_26 rfl rfl ci_m1 ?_
  refine go_cw5 (p := 28) hf_26 rfl rfl (inv_v ho_26 cl_0_105) (by decide) nl_56 rfl rfl (by first | rfl | exact rcv_of (by with_reducible assumption)) rfl rfl rfl (by omega) (by omega) (c_msend hm) ?_
  rintro v9 M2 ⟨rfl, e2, f2⟩
  simp only [Option.toList, List.cons_append, List.nil_append]
  refine go_iconst (p := 29) hf_26 rfl rfl ci_1 ?_
  refine go_ret2 hf_26 rfl nl_26 (by first | exact Or.inl rfl | exact Or.inr rfl | with_reducible assumption) ?_
  exact ⟨_, _, rfl, rfl, rfl, e2, f2⟩
